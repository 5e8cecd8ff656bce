/**
 * The document's boundaries, sentence by sentence: each that names one (too small, too large, empty, full, a
 * wrap-around, what goes ahead of what) has a test of its own, on either side of it. RefusedTest tries the refusals.
 */
public final class EdgesTest {
    private static final int NONE = -1000000, BAD = -1000001, STATE = -1000002, FULL = -1000003;
    private static final int NULL = -1000011, PLACE = -1000012, KIND = -1000013, SIZE = -1000014, STORE = -1000015;
    private static final int LOW = Integer.MIN_VALUE, HIGH = Integer.MAX_VALUE;

    private static final String POWERS = Checks.POWERS;
    private static final String SIX = "p4,3,20;f5,20,2;s3,18,1;a5,12,1;o9,7,0;h4,9,5;f0,25,3;";

    private static final Checks C = new Checks();

    private EdgesTest() {
    }

    public static void main(String[] args) {
        terms();
        rows();
        tape();
        texts();
        theCopy();
        acts();
        calls();
        foretold();
        rowsThatAreTold();
        days();
        images();
        asked();
        C.end();
    }

    // ---- terms

    private static void terms() {
        usedFor512Calls();
        badAheadOfAll();
        stateAheadOfBadWhereTold();
        ofSeveralTheFirstInTime();
        findingsByNumber();
    }

    private static void usedFor512Calls() {
        C.part("an object is used for at most 512 calls");
        PaperHour x = Checks.townOf(SIX);
        for (int call = 56; call < 510; call++) {
            C.due("call " + call, x.value(call % 6, call % 31) >= 0 ? 1 : 0, 1);
        }
        C.due("call 510", x.count(6), 24);
        C.due("call 511", x.value(0, 30), 504 % 31);
        C.due("call 512", x.reader(0, 1), 30);
    }

    private static void badAheadOfAll() {
        C.part("the first of these that fits: BAD");
        PaperHour x = new PaperHour();
        C.due("ahead of SIZE: row", x.row(8, 0, -1), BAD);
        C.due("ahead of SIZE: lane", x.row(0, 3, -1), BAD);
        C.due("ahead of NULL: set", x.set(8, -1, 0), BAD);
        C.due("ahead of NULL: copy, to", x.copy(0, 0, 8, 0, 1), BAD);
        C.due("ahead of NULL: copy, from", x.copy(-1, 0, 0, 0, 1), BAD);
        C.due("ahead of NULL: drop", x.drop(8), BAD);
        C.due("ahead of STATE: image", x.image(2), BAD);
        C.due("ahead of STATE: restore", x.restore(-1), BAD);
        C.due("ahead of NULL: fits", x.fits(0, 0, 0, 1, 0, 0), BAD);
        for (int i = 0; i < 100; i++) {
            x.feed('p');
        }
        C.due("ahead of FULL: feed", x.feed(256), BAD);
        x = Checks.townOf(SIX);
        C.due("ahead of NULL: lost", x.lost(0, 0, 0, 0, 0, 0), BAD);
        C.due("ahead of KIND: as", x.as(6, 2), BAD);
        C.due("ahead of NONE: would", x.would(5, 2), BAD);
        C.due("ahead of NONE: soonest", x.soonest(0, 6), BAD);
        C.due("ahead of NONE: copies", x.copies(1, 6), BAD);
        while (x.count(2) <= 999 - 24) {
            x.pause(24);
        }
        C.due("ahead of FULL: pause", x.pause(25), BAD);
    }

    private static void stateAheadOfBadWhereTold() {
        C.part("STATE: no TOWN (ahead of BAD)");
        PaperHour x = new PaperHour();
        C.due("pause 0", x.pause(0), STATE);
        C.due("pause 25", x.pause(25), STATE);
        C.due("best -3", x.best(-3), STATE);
        C.due("best 6", x.best(6), STATE);
        C.due("soonest of -1", x.soonest(-1, -1), STATE);
        C.due("soonest -2", x.soonest(0, -2), STATE);
        C.due("copies of 0", x.copies(0, -1), STATE);
        C.due("copies 6", x.copies(1, 6), STATE);
        C.due("lost of row 8", x.lost(8, 0, 1, 0, 0, 0), STATE);
        C.due("lost 2", x.lost(0, 0, 1, 0, 0, 2), STATE);
        C.due("drawn by seed 0", x.drawn(0, 0, 0), STATE);
        C.due("drawn of 61", x.drawn(61, 1, 0), STATE);
    }

    private static void ofSeveralTheFirstInTime() {
        C.part("FINDINGS, of several the first in time");
        PaperHour x = Checks.townOf(SIX);
        x.row(0, 0, 2);
        x.row(1, 1, 2);
        C.due("set: NULL, PLACE", x.set(2, -1, 0), NULL);
        C.due("copy: NULL, PLACE", x.copy(0, -1, 2, 0, 1), NULL);
        C.due("copy: the other NULL, PLACE", x.copy(2, -1, 0, 0, 1), NULL);
        C.due("copy: STORE, PLACE", x.copy(0, 0, 1, 0, 3), STORE);
        C.due("copy: STORE of none", x.copy(0, 0, 1, 0, 0), STORE);
        C.due("fits: NULL, PLACE", x.fits(0, 2, -1, 1, 0, 0), NULL);
        C.due("lost: NULL, PLACE", x.lost(2, -1, 1, 0, 0, 0), NULL);
    }

    private static void findingsByNumber() {
        C.part("FINDINGS: -1000010 less 1 NULL .. 5 STORE");
        PaperHour x = Checks.townOf(SIX);
        C.due("NULL", x.drop(0), -1000011);
        C.due("NULL's number", x.status(), 1);
        x.row(0, 0, 1);
        C.due("PLACE", x.set(0, 1, 0), -1000012);
        C.due("PLACE's number", x.status(), 2);
        C.due("KIND", x.as(0, 2), -1000013);
        C.due("KIND's number", x.status(), 3);
        C.due("SIZE", x.row(0, 0, -1), -1000014);
        C.due("SIZE's number", x.status(), 4);
        x.row(1, 1, 1);
        C.due("STORE", x.copy(0, 0, 1, 0, 1), -1000015);
        C.due("STORE's number", x.status(), 5);
    }

    // ---- rows

    private static void rows() {
        rowsAreMissingAtFirst();
        lanes();
        sizes();
        itemsAre0AtFirst();
        lowestBits();
        places();
        copiesAsTheyWereAhead();
        copiesToEitherEnd();
        dropped();
    }

    private static void rowsAreMissingAtFirst() {
        C.part("ROWS 0 .. 7 are missing (at first)");
        PaperHour x = new PaperHour();
        C.due("-1", x.drop(-1), BAD);
        for (int row = 0; row <= 7; row++) {
            C.due("missing", x.drop(row), NULL);
            C.due("laid", x.row(row, row % 3, row), row);
            C.due("how many", x.count(0), row + 1);
        }
        C.due("8", x.drop(8), BAD);
        C.due("8 cannot be laid", x.row(8, 0, 0), BAD);
        C.due("-1 cannot be laid", x.row(-1, 0, 0), BAD);
        C.due("low", x.row(LOW, 0, 0), BAD);
        C.due("high", x.row(HIGH, 0, 0), BAD);
        C.due("all eight", x.count(0), 8);
    }

    private static void lanes() {
        C.part("a LANE (0 bytes, 1 shorts, 2 ints)");
        PaperHour x = new PaperHour();
        C.due("-1", x.row(0, -1, 1), BAD);
        C.due("3", x.row(0, 3, 1), BAD);
        C.due("low", x.row(0, LOW, 1), BAD);
        C.due("high", x.row(0, HIGH, 1), BAD);
        C.due("bytes", x.row(0, 0, 1), 1);
        C.due("a byte", x.set(0, 0, 0x12345678), 0x78);
        C.due("shorts", x.row(0, 1, 1), 1);
        C.due("a short", x.set(0, 0, 0x12345678), 0x5678);
        C.due("ints", x.row(0, 2, 1), 1);
        C.due("an int", x.set(0, 0, 0x12345678), 0x12345678);
    }

    private static void sizes() {
        C.part("0 to 40 ITEMS");
        PaperHour x = new PaperHour();
        for (int lane = 0; lane <= 2; lane++) {
            C.due("-1", x.row(0, lane, -1), SIZE);
            C.due("low", x.row(0, lane, LOW), SIZE);
            C.due("0", x.row(0, lane, 0), 0);
            C.due("none of none", x.set(0, 0, 1), PLACE);
            C.due("40", x.row(0, lane, 40), 40);
            C.due("its last", x.set(0, 39, 1), 1);
            C.due("behind its last", x.set(0, 40, 1), PLACE);
            C.due("41", x.row(0, lane, 41), BAD);
            C.due("high", x.row(0, lane, HIGH), BAD);
            C.due("40 yet", x.drop(0), 40);
        }
    }

    private static void itemsAre0AtFirst() {
        C.part("ITEMS, 0 at first");
        PaperHour x = Checks.townOf(POWERS);
        x.row(0, 2, 40);
        for (int i = 0; i < 40; i++) {
            x.set(0, i, 5);
        }
        C.due("in place of what is there", x.row(0, 2, 40), 40);
        for (int i = 0; i < 40; i++) {
            C.due("item " + i, Checks.itemOf(x, 0, i), 0);
        }
        x.set(0, 39, 5);
        x.drop(0);
        x.row(0, 1, 40);
        C.due("behind a drop", Checks.itemOf(x, 0, 39), 0);
    }

    private static void lowestBits() {
        C.part("its lowest bits, as many as the LANE has (read with their sign)");
        PaperHour x = Checks.townOf(POWERS);
        x.row(0, 0, 1);
        int[][] bytes = {{127, 127}, {128, -128}, {255, -1}, {256, 0}, {-128, -128}, {-129, 127}, {LOW, 0}, {HIGH, -1}};
        dueSet(x, bytes);
        x.set(0, 0, 256 + 3);
        C.due("such is the byte", Checks.itemOf(x, 0, 0), 3);
        x.set(0, 0, -256 + 2);
        C.due("such is the byte from below", Checks.itemOf(x, 0, 0), 2);
        x.row(0, 1, 1);
        int[][] shorts = {{32767, 32767}, {32768, -32768}, {65535, -1}, {65536, 0}, {-32768, -32768}, {-32769, 32767},
            {LOW, 0}, {HIGH, -1}};
        dueSet(x, shorts);
        x.set(0, 0, 65536 + 4);
        C.due("such is the short", Checks.itemOf(x, 0, 0), 4);
        x.row(0, 2, 1);
        dueSet(x, new int[][] {{LOW, LOW}, {HIGH, HIGH}, {-1, -1}, {65536, 65536}});
    }

    private static void dueSet(PaperHour x, int[][] setAndIs) {
        for (int[] pair : setAndIs) {
            C.due("set to " + pair[0], x.set(0, 0, pair[0]), pair[1]);
        }
    }

    private static void places() {
        C.part("2 PLACE (no such place of a ROW)");
        PaperHour x = new PaperHour();
        x.row(7, 2, 3);
        C.due("-1", x.set(7, -1, 5), PLACE);
        C.due("0", x.set(7, 0, 5), 5);
        C.due("2", x.set(7, 2, 5), 5);
        C.due("3", x.set(7, 3, 5), PLACE);
        C.due("low", x.set(7, LOW, 5), PLACE);
        C.due("high", x.set(7, HIGH, 5), PLACE);
        // another row's length does not count
        x.row(6, 2, 40);
        C.due("3 yet", x.set(7, 3, 5), PLACE);
    }

    private static void copiesAsTheyWereAhead() {
        C.part("n ITEMS of a from i on come to b from j on, as they were ahead");
        PaperHour x = Checks.townOf(POWERS);
        x.row(0, 0, 6);
        setAll(x, 0, 0, 1, 2, 3, 4, 5);
        C.due("one further", x.copy(0, 0, 0, 1, 5), 5);
        dueItems(x, 0, 0, 0, 1, 2, 3, 4);
        setAll(x, 0, 0, 1, 2, 3, 4, 5);
        C.due("one back", x.copy(0, 1, 0, 0, 5), 5);
        dueItems(x, 0, 1, 2, 3, 4, 5, 5);
        C.due("all onto itself", x.copy(0, 0, 0, 0, 6), 6);
        dueItems(x, 0, 1, 2, 3, 4, 5, 5);
        x.row(1, 0, 3);
        C.due("three to another", x.copy(0, 2, 1, 0, 3), 3);
        dueItems(x, 1, 3, 4, 5);
        dueItems(x, 0, 1, 2, 3, 4, 5, 5);
    }

    private static void setAll(PaperHour x, int row, int... items) {
        for (int i = 0; i < items.length; i++) {
            x.set(row, i, items[i]);
        }
    }

    private static void dueItems(PaperHour x, int row, int... items) {
        for (int i = 0; i < items.length; i++) {
            C.due("item " + i, Checks.itemOf(x, row, i), items[i]);
        }
    }

    private static void copiesToEitherEnd() {
        C.part("PLACE (i, j, n below 0, or beyond an end)");
        PaperHour x = new PaperHour();
        x.row(0, 1, 5);
        x.row(1, 1, 3);
        x.row(2, 1, 0);
        C.due("none, at the ends", x.copy(0, 5, 1, 3, 0), 0);
        C.due("none, of an empty one", x.copy(2, 0, 2, 0, 0), 0);
        C.due("one of an empty one", x.copy(2, 0, 0, 0, 1), PLACE);
        C.due("one to an empty one", x.copy(0, 0, 2, 0, 1), PLACE);
        C.due("up to both ends", x.copy(0, 2, 1, 0, 3), 3);
        C.due("beyond a's", x.copy(0, 3, 1, 0, 3), PLACE);
        C.due("beyond b's", x.copy(0, 2, 1, 1, 3), PLACE);
        C.due("none, beyond a's", x.copy(0, 6, 1, 0, 0), PLACE);
        C.due("none, beyond b's", x.copy(0, 0, 1, 4, 0), PLACE);
        C.due("i -1", x.copy(0, -1, 1, 0, 1), PLACE);
        C.due("i -1, none", x.copy(0, -1, 1, 0, 0), PLACE);
        C.due("j -1", x.copy(0, 0, 1, -1, 1), PLACE);
        C.due("j -1, none", x.copy(0, 0, 1, -1, 0), PLACE);
        C.due("n -1", x.copy(0, 1, 1, 1, -1), PLACE);
        C.due("n low", x.copy(0, 0, 1, 0, LOW), PLACE);
        C.due("n high", x.copy(0, 0, 1, 0, HIGH), PLACE);
        C.due("i and n turn over", x.copy(0, HIGH, 1, 0, HIGH), PLACE);
        C.due("j and n turn over", x.copy(0, 0, 1, HIGH, 1), PLACE);
        C.due("i low", x.copy(0, LOW, 1, 0, 1), PLACE);
        C.due("i low, n low", x.copy(0, LOW, 1, 0, LOW), PLACE);
    }

    private static void dropped() {
        C.part("a ROW is missing from now on: how many ITEMS it had");
        PaperHour x = new PaperHour();
        x.row(0, 0, 0);
        x.row(7, 0, 40);
        C.due("none", x.drop(0), 0);
        C.due("40", x.drop(7), 40);
        C.due("missing", x.drop(7), NULL);
        C.due("to set", x.set(7, 0, 0), NULL);
        C.due("to copy", x.copy(7, 0, 7, 0, 0), NULL);
        C.due("no row", x.count(0), 0);
        C.due("laid anew, smaller", x.row(7, 0, 1), 1);
        C.due("no second item", x.set(7, 1, 0), PLACE);
    }

    // ---- texts

    private static void tape() {
        C.part("THE TAPE has at most 100 bytes, a byte (0 to 255)");
        PaperHour x = new PaperHour();
        C.due("-1", x.feed(-1), BAD);
        C.due("256", x.feed(256), BAD);
        C.due("low", x.feed(LOW), BAD);
        C.due("high", x.feed(HIGH), BAD);
        C.due("nothing came", x.count(7), 0);
        C.due("0", x.feed(0), 1);
        C.due("255", x.feed(255), 2);
        for (int n = 3; n <= 100; n++) {
            C.due("byte " + n, x.feed('1'), n);
        }
        C.due("101", x.feed('1'), FULL);
        C.due("100 yet", x.count(7), 100);
        C.due("what is full is read, too", x.town(), -1000100);
        C.due("empty then", x.count(7), 0);
        C.due("first of the next", x.feed('p'), 1);
    }

    private static void texts() {
        everyByteAtItsPlace();
        theEndIsWhereTheBytesEnd();
        threeFiguresAtTheirFirst();
        numbersAsTold();
        sixReadersAtMost();
        ofOneTokenTheLeast();
        theFirstTokenThatHasOne();
        aTownOfNobody();
        standsInPlaceOfTheOneBefore();
        allStaysButTheTape();
        theLatestFault();
        aFullTape();
    }

    private static int townOf(PaperHour x, String text) {
        Checks.feedAll(x, text);
        return x.town();
    }

    private static void dueFault(String text, int place, int number) {
        PaperHour x = new PaperHour();
        C.due("town of " + text, townOf(x, text), -1000100 - place);
        C.due("fault of " + text, x.fault(), number);
        C.due("no town by " + text, x.pause(1), STATE);
    }

    /** Each byte in turn behind each token (none at first): all but what is due, or a second figure, cannot stand. */
    private static void everyByteAtItsPlace() {
        C.part("it cannot stand there, or is none");
        String[] ahead = {"", "p", "p1", "p1,", "p1,1", "p1,1,", "p1,1,1", "p1,1,1;", "p1,1,1;f", "p1,1,1;f1",
            "p1,1,1;f1,", "p1,1,1;f1,1", "p1,1,1;f1,1,", "p1,1,1;f1,1,1"};
        String figures = "0123456789";
        String[] due = {"p", figures, "," + figures, figures, "," + figures, figures, ";" + figures, "fsaoh", figures,
            "," + figures, figures, "," + figures, figures, ";" + figures};
        for (int k = 0; k < ahead.length; k++) {
            for (int letter = 0; letter < 256; letter++) {
                if (due[k].indexOf(letter) < 0) {
                    dueFault(ahead[k] + (char) letter, ahead[k].length(), 1);
                }
            }
        }
    }

    private static void theEndIsWhereTheBytesEnd() {
        C.part("the end: how many bytes there are");
        int readers = -1;
        for (int length = 0; length <= SIX.length(); length++) {
            String text = SIX.substring(0, length);
            PaperHour x = new PaperHour();
            if (text.endsWith(";")) {
                readers++;
                C.due("town of " + text, townOf(x, text), readers);
                C.due("no fault in " + text, x.fault(), 0);
            } else {
                dueFault(text, length, 1);
            }
        }
        C.due("all read", readers, 6);
    }

    private static void threeFiguresAtTheirFirst() {
        C.part("a run of three figures or more, at its first");
        dueFault("p000,", 1, 1);
        dueFault("p0000000000,", 1, 1);
        dueFault("p1,111,", 3, 1);
        dueFault("p1,1,060;", 5, 1);
        dueFault("p1,1,060", 5, 1);
        dueFault("p1,1,4294967296;", 5, 1);
        dueFault("p1,1,1;f001,", 8, 1);
        dueFault("p1,1,1;f1,030,", 10, 1);
        dueFault("p1,1,1;f1,1,009;", 12, 1);
        dueFault("p1,1,1;f1,1,999", 12, 1);
        PaperHour x = new PaperHour();
        C.due("two figures", townOf(x, "p09,00,05;f09,09,09;"), 1);
        C.due("press", x.count(3), 9);
        C.due("late", x.reader(0, 2), 9);
    }

    private static void numbersAsTold() {
        C.part("law 0 to 9; 0 to 20; 0 to 60, reader 0 to 9; 0 to 30; 0 to 9");
        String[] ahead = {"p", "p1,", "p1,1,", "p1,1,1;h", "p1,1,1;h1,", "p1,1,1;h1,1,"};
        String[] behind = {",1,1;h1,1,1;", ",1;h1,1,1;", ";h1,1,1;", ",1,1;", ",1;", ";"};
        int[] most = {9, 20, 60, 9, 30, 9};
        for (int k = 0; k < most.length; k++) {
            for (int number = 0; number <= 99; number++) {
                String text = ahead[k] + number + behind[k];
                if (number <= most[k]) {
                    C.due("town of " + text, townOf(new PaperHour(), text), 1);
                } else {
                    dueFault(text, ahead[k].length(), 2);
                }
            }
        }
    }

    private static void sixReadersAtMost() {
        C.part("READERS 0 .. 5, 6 at most; 3 a reader more than there is room for (its letter)");
        String text = "p1,1,1;";
        for (int n = 0; n <= 6; n++) {
            PaperHour x = new PaperHour();
            C.due("town of " + n, townOf(x, text), n);
            C.due("readers", x.count(1), n);
            C.due("the last", x.kind(n - 1), n == 0 ? BAD : 4);
            C.due("none behind", x.kind(n), BAD);
            text += "o1,1,1;";
        }
        dueFault(text, 49, 3);
        for (int letter = 'a'; letter <= 'z'; letter++) {
            dueFault(text.substring(0, 49) + (char) letter, 49, "fsaoh".indexOf(letter) >= 0 ? 3 : 1);
        }
        dueFault(text.substring(0, 49) + "7", 49, 1);
        dueFault(text.substring(0, 49) + ";", 49, 1);
    }

    private static void ofOneTokenTheLeast() {
        C.part("of one TOKEN the least");
        dueFault("99", 0, 1);
        dueFault("p1,1,1;99,", 7, 1);
        dueFault("p1,99,", 3, 2);
        dueFault("p1,999,", 3, 1);
        dueFault("p1;99", 2, 1);
    }

    private static void theFirstTokenThatHasOne() {
        C.part("the first TOKEN that has one");
        dueFault("p10,21,61;x", 1, 2);
        dueFault("p1,21,61;x", 3, 2);
        dueFault("p1,1,61;x", 5, 2);
        dueFault("p1,1,1;x10", 7, 1);
        dueFault("p1,1,1;f10,31,10;", 8, 2);
        dueFault("p1,1,1;f1,31,10;", 10, 2);
        dueFault("p1,1,1;f1,1,10;x", 12, 2);
        dueFault("p1,1,1;f1,1,10", 12, 2);
        dueFault("p1,1,61", 5, 2);
    }

    private static void aTownOfNobody() {
        C.part("town: law { reader }, of no reader");
        PaperHour x = new PaperHour();
        C.due("nobody", townOf(x, "p3,20,60;"), 0);
        C.due("at the press", x.count(3), 3);
        C.due("it waits", x.pause(24), 24);
        C.due("nobody to give", x.give(0), BAD);
        C.due("best", x.best(-1), 0);
        C.due("best, how many", x.best(-2), 0);
        C.due("best, first", x.best(0), NONE);
        C.due("soonest", x.soonest(0, -1), 24);
        C.due("soonest of one", x.soonest(1, -1), BAD);
        C.due("copies", x.copies(3, -1), 1000 - 60);
        C.due("copies, first", x.copies(3, 0), NONE);
        C.due("drawn", x.drawn(60, 1, 1), 0);
        x.row(0, 0, 1);
        C.due("lost", x.lost(0, 0, 1, 0, 0, 0), 0);
        C.due("lost, below", x.lost(0, 0, 1, 0, 0, 1), 1);
        C.due("image", x.image(1), 1);
        C.due("restore", x.restore(1), 1);
    }

    private static void standsInPlaceOfTheOneBefore() {
        C.part("a TOWN that is read stands in place of the one before");
        PaperHour x = Checks.townOf(SIX);
        x.row(3, 2, 9);
        x.give(0);
        x.image(1);
        x.give(4);
        x.pause(9);
        C.due("of one", townOf(x, "p7,0,9;o7,1,1;"), 1);
        C.due("at PRESS", x.count(3), 7);
        C.due("HOUR 0", x.count(2), 0);
        C.due("nobody has READ it", x.count(4), 0);
        C.due("nothing is EARNED", x.count(5), 0);
        C.due("no ACT can be undone", x.undo(), STATE);
        C.due("no ACT counts", x.count(6), 0);
        C.due("no second reader", x.reader(1, 0), BAD);
        C.due("ROWS stay", x.drop(3), 9);
        C.due("IMAGES stay", x.restore(1), 1);
        C.due("its readers", x.count(1), 6);
        C.due("its hour", x.count(2), 2);
    }

    private static void allStaysButTheTape() {
        C.part("all stays, but the tape is empty then, and fault() tells this one");
        PaperHour x = Checks.townOf(SIX);
        x.give(0);
        x.pause(2);
        C.due("another law is read ahead of the fault", townOf(x, "p9,9,9;o1,2,3;o1"), -1000100 - 16);
        C.due("the tape", x.count(7), 0);
        C.due("fault", x.fault(), 1);
        C.due("readers", x.count(1), 6);
        C.due("at", x.count(3), 5);
        C.due("hour", x.count(2), 4);
        C.due("earned", x.count(5), 18);
        C.due("worth", x.reader(0, 1), 20);
        C.due("acts", x.undo(), 1);
        C.due("stamp", x.copies(1, -1), 1050);
        C.due("last", x.reader(3, 4), 1);
    }

    private static void theLatestFault() {
        C.part("the number of the latest FAULT; 0 before one");
        PaperHour x = new PaperHour();
        C.due("before one", x.fault(), 0);
        townOf(x, SIX);
        C.due("before one, behind a town", x.fault(), 0);
        townOf(x, "p10,");
        C.due("2", x.fault(), 2);
        townOf(x, "x");
        C.due("1", x.fault(), 1);
        townOf(x, "p1,1,1;o1,1,1;o1,1,1;o1,1,1;o1,1,1;o1,1,1;o1,1,1;o1,1,1;");
        C.due("3", x.fault(), 3);
        townOf(x, SIX);
        C.due("the latest yet", x.fault(), 3);
        x.row(0, 0, -1);
        C.due("a FINDING is none", x.fault(), 3);
    }

    private static void aFullTape() {
        C.part("a text of 100 bytes");
        String six = "p09,20,60;f09,30,09;s09,30,09;a09,30,09;o09,30,09;h09,30,09;f09,30,09;";
        C.due("the longest town", six.length(), 70);
        PaperHour x = new PaperHour();
        C.due("it is read", townOf(x, six), 6);
        dueFault(six + "f09,30,09;f09,30,09;f09,30,09;", 70, 3);
        String commas = ",,,,,,,,,,";
        dueFault(six + commas + commas + commas, 70, 1);
        dueFault("1111111111" + six + commas + commas, 0, 1);
    }

    // ---- the copy

    private static void theCopy() {
        comesByHowMuchPlacesDiffer();
        atLastOrSooner();
        ifHeHasNotReadIt();
        freshAtLeast0();
        spyIfAnybodyHasReadIt();
        aloudForEachOther();
        oldNeverLess();
        hourBehind();
    }

    private static void comesByHowMuchPlacesDiffer() {
        C.part("it COMES at HOUR and by how much AT and PLACE differ");
        for (int press = 0; press <= 9; press++) {
            PaperHour x = Checks.townOf("p" + press + ",0,60;o0,0,0;o9,0,0;o4,0,0;");
            C.due("to 0", x.would(0, 0), press);
            C.due("to 9", x.would(1, 0), 9 - press);
            C.due("to 4", x.would(2, 0), press < 4 ? 4 - press : press - 4);
            x.pause(7);
            C.due("to 0, later", x.would(0, 0), 7 + press);
        }
    }

    private static void atLastOrSooner() {
        C.part("it COMES at LAST or sooner");
        PaperHour x = Checks.townOf("p0,0,3;o2,1,0;o3,1,0;o4,1,0;");
        C.due("sooner", x.reader(0, 4), 1);
        C.due("at LAST", x.reader(1, 4), 1);
        C.due("later", x.reader(2, 4), 0);
        C.due("later: would", x.would(2, 0), NONE);
        C.due("later: would bring", x.would(2, 1), NONE);
        C.due("later: give", x.give(2), STATE);
        x.pause(1);
        C.due("at LAST now", x.reader(0, 4), 1);
        C.due("later now", x.give(1), STATE);
        C.due("given at LAST", x.give(0), 1);
        PaperHour y = Checks.townOf("p5,0,0;o5,9,9;f5,9,9;o4,9,9;");
        C.due("LAST 0, not there", y.give(2), STATE);
        C.due("LAST 0, there", y.give(1), 9);
        C.due("LAST 0, an hour behind", y.give(0), STATE);
        PaperHour z = Checks.townOf("p0,0,60;o0,1,0;o1,2,0;");
        z.pause(24);
        z.pause(24);
        z.pause(12);
        C.due("LAST 60, at 61", z.give(1), STATE);
        C.due("LAST 60, at 60", z.give(0), 1);
        C.due("hour 61", z.count(2), 61);
    }

    private static void ifHeHasNotReadIt() {
        C.part("it can be GIVEN to him, if he has not READ it");
        PaperHour x = Checks.townOf(POWERS);
        for (int reader = 0; reader < 6; reader++) {
            C.due("can", x.reader(reader, 4), 1);
            C.due("has not", x.reader(reader, 3), 0);
            x.give(reader);
            C.due("can not", x.reader(reader, 4), 0);
            C.due("has", x.reader(reader, 3), 1);
            C.due("again", x.give(reader), STATE);
            C.due("who", x.count(4), (2 << reader) - 1);
        }
        C.due("all", x.count(5), 61);
    }

    private static void freshAtLeast0() {
        C.part("WORTH less h times LATE (0 at least)");
        for (String sort : new String[] {"f", "s", "a"}) {
            C.due(sort + " 1", Checks.townOf("p0,0,60;" + sort + "4,9,2;").give(0), 1);
            C.due(sort + " 0", Checks.townOf("p0,0,60;" + sort + "4,8,2;").give(0), 0);
            C.due(sort + " below", Checks.townOf("p0,0,60;" + sort + "4,7,2;").give(0), 0);
            C.due(sort + " far below", Checks.townOf("p0,0,60;" + sort + "9,0,9;").give(0), 0);
            C.due(sort + " never late", Checks.townOf("p0,0,60;" + sort + "9,30,0;").give(0), 30);
            C.due(sort + " at once", Checks.townOf("p9,0,60;" + sort + "9,30,9;").give(0), 30);
            C.due(sort + " worth nothing", Checks.townOf("p9,0,60;" + sort + "9,0,0;").give(0), 0);
        }
    }

    private static void spyIfAnybodyHasReadIt() {
        C.part("by a spy so, but nothing, if anybody has READ it");
        for (int other = 1; other <= 5; other++) {
            PaperHour x = Checks.townOf("p0,0,60;s0,9,0;f0,1,0;s0,1,0;a0,1,0;o0,1,0;h0,1,0;");
            C.due("nobody", x.would(0, 1), 9);
            x.pause(1);
            C.due("nobody, waited", x.would(0, 1), 9);
            x.give(other);
            C.due("another", x.would(0, 1), 0);
            C.due("it can be given", x.reader(0, 4), 1);
            C.due("given", x.give(0), 0);
            x.undo();
            x.undo();
            C.due("nobody, undone", x.would(0, 1), 9);
        }
    }

    private static void aloudForEachOther() {
        C.part("1 more for each other READER (whether he has READ it or not) at his PLACE");
        String text = "p0,0,60;a2,5,1;";
        for (int others = 0; others <= 5; others++) {
            C.due(others + " others", Checks.townOf(text).would(0, 1), 3 + others);
            text += "h2,1,1;";
        }
        PaperHour x = Checks.townOf("p0,0,60;a2,5,1;h2,1,1;o1,1,1;a3,0,9;s2,1,1;");
        C.due("not those beside", x.would(0, 1), 3 + 2);
        x.give(1);
        C.due("who has READ it, too", x.would(0, 1), 5 - 4 + 2);
        x.move(1, 3);
        C.due("moved away", x.would(0, 1), 5 - 4 + 1);
        C.due("moved there", x.would(3, 1), 1);
        x.move(0, 3);
        C.due("he moves", x.would(0, 1), 5 - 5 + 2);
        C.due("0 at least is of what is fresh alone", x.would(3, 1), 2);
    }

    private static void oldNeverLess() {
        C.part("by an old one, one who hires WORTH");
        PaperHour x = Checks.townOf("p0,0,60;o9,30,9;h9,30,9;o9,0,9;");
        C.due("old", x.would(0, 1), 30);
        C.due("hires", x.would(1, 1), 30);
        C.due("nothing", x.would(2, 1), 0);
        x.give(0);
        C.due("hires, behind another", x.give(1), 30);
        C.due("nothing is given, too", x.give(2), 0);
        C.due("who", x.count(4), 7);
    }

    private static void hourBehind() {
        C.part("HOUR is 1 behind when it COMES, of one who hires 2");
        String[] sorts = {"f", "s", "a", "o", "h"};
        for (int k = 0; k < 5; k++) {
            PaperHour x = Checks.townOf("p3,0,60;" + sorts[k] + "9,1,1;");
            x.pause(4);
            x.give(0);
            C.due(sorts[k], x.count(2), 4 + 6 + (k == 4 ? 2 : 1));
            C.due(sorts[k] + " at", x.count(3), 9);
        }
    }

    // ---- acts

    private static void acts() {
        atMost24AreKept();
        ofMoreTheOldestIsForgotten();
        theRingTurns();
        byWhichNothingBecomesAnother();
        eachCanBeUndone();
    }

    private static void atMost24AreKept() {
        C.part("24 at most are kept");
        PaperHour x = Checks.townOf(SIX);
        for (int n = 1; n <= 24; n++) {
            x.pause(1);
            C.due("kept", x.count(6), n);
        }
        x.pause(1);
        C.due("kept yet", x.count(6), 24);
        for (int n = 23; n >= 0; n--) {
            C.due("undone", x.undo(), n);
            C.due("hour", x.count(2), n + 1);
        }
        C.due("none", x.undo(), STATE);
        C.due("the first stands", x.count(2), 1);
    }

    private static void ofMoreTheOldestIsForgotten() {
        C.part("of more the oldest is forgotten");
        PaperHour x = Checks.townOf(SIX);
        x.give(0);
        for (int n = 0; n < 23; n++) {
            x.value(1, n);
        }
        x.move(2, 9);
        for (int n = 0; n < 24; n++) {
            x.undo();
        }
        C.due("the given one cannot be undone", x.undo(), STATE);
        C.due("he has read it", x.count(4), 1);
        C.due("where he was", x.reader(2, 0), 5);
        C.due("worth again", x.reader(1, 1), 18);
        PaperHour y = Checks.townOf(SIX);
        y.give(0);
        for (int n = 0; n < 23; n++) {
            y.value(1, n);
        }
        for (int n = 0; n < 24; n++) {
            y.undo();
        }
        C.due("of 24 it can", y.count(4), 0);
    }

    private static void theRingTurns() {
        C.part("24 at most, the latest first, over and over");
        PaperHour x = Checks.townOf("p0,0,60;o0,0,0;");
        int hour = 0;
        int kept = 0;
        for (int round = 0; round < 7; round++) {
            for (int n = 0; n < 17; n++) {
                hour++;
                kept = Math.min(24, kept + 1);
                C.due("hour", x.pause(1), hour);
            }
            C.due("kept", x.count(6), kept);
            for (int n = 0; n < 11; n++) {
                hour--;
                kept--;
                C.due("undone", x.undo(), kept);
                C.due("hour ahead", x.count(2), hour);
            }
        }
        for (; kept > 0; kept--) {
            hour--;
            C.due("undone", x.undo(), kept - 1);
            C.due("hour ahead", x.count(2), hour);
        }
        C.due("none", x.undo(), STATE);
    }

    private static void byWhichNothingBecomesAnother() {
        C.part("also such by which nothing becomes another");
        PaperHour x = Checks.townOf(SIX);
        C.due("worth what it was", x.value(0, 20), 20);
        C.due("one", x.count(6), 1);
        C.due("where he was", x.move(0, 5), 5);
        C.due("two", x.count(6), 2);
        C.due("undone", x.undo(), 1);
        C.due("undone, too", x.undo(), 0);
        C.due("none", x.undo(), STATE);
        C.due("worth", x.reader(0, 1), 20);
        C.due("place", x.reader(0, 0), 5);
    }

    private static void eachCanBeUndone() {
        C.part("each can be undone, the latest first");
        PaperHour x = Checks.townOf(SIX);
        x.give(5);
        C.due("given", x.undo(), 0);
        dueStands(x, 4, 0, 0, 0);
        C.due("can be given again", x.give(5), 25 - 12);
        x.undo();
        x.pause(24);
        x.undo();
        dueStands(x, 4, 0, 0, 0);
        x.value(5, 0);
        x.undo();
        C.due("worth", x.reader(5, 1), 25);
        x.move(5, 9);
        x.undo();
        C.due("place", x.reader(5, 0), 0);
        x.move(5, 4);
        x.value(5, 30);
        x.give(5);
        x.move(5, 0);
        x.undo();
        C.due("where it was given", x.reader(5, 0), 4);
        dueStands(x, 4, 1, 32, 30);
        x.undo();
        dueStands(x, 4, 0, 0, 0);
        C.due("moved yet", x.reader(5, 0), 4);
        C.due("worth yet", x.reader(5, 1), 30);
    }

    private static void dueStands(PaperHour x, int at, int hour, int read, int earned) {
        C.due("at", x.count(3), at);
        C.due("hour", x.count(2), hour);
        C.due("read", x.count(4), read);
        C.due("earned", x.count(5), earned);
    }

    // ---- calls with a town

    private static void calls() {
        readersThatAreThere();
        pauses();
        worths();
        moves();
        whatOfAReader();
    }

    /** Every call of a reader, of the one behind the last, of far ones; and with no town of the first. */
    private static void readersThatAreThere() {
        C.part("BAD: there is no such READER");
        for (int n = 0; n <= 6; n++) {
            PaperHour x = n == 0 ? new PaperHour() : Checks.townOf(POWERS.substring(0, 8 + 7 * Math.min(n, 4)
                + 8 * Math.max(0, n - 4)));
            x.row(0, 0, 1);
            C.due("readers", x.count(1), n);
            for (int reader : new int[] {-1, n, n + 1, 6, 31, 32, 33, LOW, HIGH}) {
                C.due("give", x.give(reader), BAD);
                C.due("value", x.value(reader, 1), BAD);
                C.due("move", x.move(reader, 1), BAD);
                C.due("reader", x.reader(reader, 0), BAD);
                C.due("would", x.would(reader, 0), BAD);
                C.due("fits", x.fits(reader, 0, 0, 1, 0, 0), BAD);
                C.due("kind", x.kind(reader), BAD);
                C.due("as", x.as(reader, 0), BAD);
                C.due("ask", x.ask(reader, 0), BAD);
            }
            if (n > 0) {
                C.due("as, the last", x.as(n - 1, 4), n - 1);
                C.due("give, the last", x.give(n - 1), n == 6 ? 30 : 1 << n - 1);
            }
        }
    }

    private static void pauses() {
        C.part("it waits n HOURS (1 to 24)");
        PaperHour x = Checks.townOf(SIX);
        C.due("0", x.pause(0), BAD);
        C.due("-1", x.pause(-1), BAD);
        C.due("25", x.pause(25), BAD);
        C.due("low", x.pause(LOW), BAD);
        C.due("high", x.pause(HIGH), BAD);
        C.due("1", x.pause(1), 1);
        C.due("24", x.pause(24), 25);
        C.part("FULL: HOUR would be above 999");
        for (int k = 0; k < 40; k++) {
            x.pause(24);
        }
        C.due("985", x.count(2), 985);
        C.due("1000", x.pause(15), FULL);
        C.due("999", x.pause(14), 999);
        C.due("one above", x.pause(1), FULL);
        C.due("far above", x.pause(24), FULL);
        C.due("bad", x.pause(0), BAD);
        C.due("999 yet", x.count(2), 999);
        C.due("no act by it", x.undo(), 23);
        C.due("985 again", x.count(2), 985);
    }

    private static void worths() {
        C.part("WORTH is v (0 to 30)");
        PaperHour x = Checks.townOf(SIX);
        C.due("-1", x.value(5, -1), BAD);
        C.due("31", x.value(5, 31), BAD);
        C.due("low", x.value(5, LOW), BAD);
        C.due("high", x.value(5, HIGH), BAD);
        C.due("0", x.value(5, 0), 25);
        C.due("30", x.value(5, 30), 0);
        C.due("is", x.reader(5, 1), 30);
        C.due("brings", x.give(5), 30 - 12);
        C.due("of one who has READ it", x.value(5, 1), 30);
        C.due("what is EARNED stays", x.count(5), 18);
    }

    private static void moves() {
        C.part("a READER moves to a PLACE (0 to 9)");
        PaperHour x = Checks.townOf(SIX);
        C.due("-1", x.move(5, -1), BAD);
        C.due("10", x.move(5, 10), BAD);
        C.due("low", x.move(5, LOW), BAD);
        C.due("high", x.move(5, HIGH), BAD);
        C.due("9", x.move(5, 9), 0);
        C.due("0", x.move(5, 0), 9);
        C.due("is", x.would(5, 0), 4);
        x.give(5);
        C.due("who has READ it", x.move(5, 8), 0);
        C.due("the COPY is where it was", x.count(3), 0);
    }

    private static void whatOfAReader() {
        C.part("0 PLACE .. 4 whether it can be GIVEN to him");
        PaperHour x = Checks.townOf(SIX);
        C.due("-1", x.reader(0, -1), BAD);
        C.due("5", x.reader(0, 5), BAD);
        C.due("low", x.reader(0, LOW), BAD);
        C.due("high", x.reader(0, HIGH), BAD);
        int[] of = {5, 20, 2, 0, 1};
        for (int what = 0; what <= 4; what++) {
            C.due("what " + what, x.reader(0, what), of[what]);
        }
    }

    // ---- foretold

    private static void foretold() {
        woulds();
        bestOfAll();
        bestOfSeveral();
        soonestNumbers();
        soonestNowIfThereAreNone();
        soonestByNone();
        copiesNumbers();
        copiesOfSeveral();
        copiesByThemselves();
    }

    private static void woulds() {
        C.part("COMES (what = 0), BRINGS (1); NONE: it can not be GIVEN to him");
        PaperHour x = Checks.townOf(SIX);
        C.due("-1", x.would(0, -1), BAD);
        C.due("2", x.would(0, 2), BAD);
        C.due("low", x.would(0, LOW), BAD);
        C.due("high", x.would(0, HIGH), BAD);
        C.due("comes", x.would(0, 0), 1);
        C.due("brings", x.would(0, 1), 18);
        x.give(0);
        C.due("has READ it", x.would(0, 0), NONE);
        C.due("has READ it: brings", x.would(0, 1), NONE);
        C.due("bad ahead of none", x.would(0, 2), BAD);
        PaperHour at0 = Checks.townOf("p0,0,0;o0,0,0;");
        C.due("comes at 0", at0.would(0, 0), 0);
        C.due("brings 0", at0.would(0, 1), 0);
    }

    private static void bestOfAll() {
        C.part("BEST: how much (k = -1), how many (k = -2), the k-th (0 on); NONE: the row is not so long");
        PaperHour x = Checks.townOf(POWERS);
        for (int k : new int[] {-3, 6, 7, LOW, HIGH}) {
            C.due("k " + k, x.best(k), BAD);
        }
        for (int reader = 0; reader <= 6; reader++) {
            C.due("how many", x.best(-2), 6 - reader);
            C.due("more", x.best(-1), 61 - x.count(5));
            for (int k = 0; k < 6; k++) {
                C.due("best " + k, x.best(k), k < 6 - reader ? reader + k : NONE);
            }
            x.give(reader);
        }
        PaperHour late = Checks.townOf("p0,0,9;o0,9,0;o9,9,0;");
        C.due("both", late.best(-1), 9);
        late.pause(10);
        C.due("too late for all", late.best(-1), 0);
        C.due("none", late.best(-2), 0);
        C.due("no first", late.best(0), NONE);
    }

    private static void bestOfSeveral() {
        C.part("BEST: of several the shortest, of these the first (by numbers)");
        PaperHour x = Checks.townOf("p0,0,60;f0,0,0;o0,5,0;f0,0,9;o0,5,0;s0,5,9;h0,0,0;");
        C.due("most", x.best(-1), 15);
        C.due("without such as bring nothing", x.best(-2), 3);
        C.due("the spy must be first", x.best(0), 4);
        C.due("then by numbers", x.best(1), 1);
        C.due("the last", x.best(2), 3);
        PaperHour y = Checks.townOf("p5,0,2;o3,4,0;o7,4,0;o5,0,0;");
        C.due("one of two", y.best(-1), 4);
        C.due("one is enough", y.best(-2), 1);
        C.due("the first", y.best(0), 0);
        PaperHour z = Checks.townOf("p5,0,2;o7,3,0;o3,4,0;o7,1,0;");
        C.due("more by numbers behind", z.best(-1), 4);
        C.due("it is the second", z.best(0), 1);
        // the longer one is met first by numbers, and brings as much
        PaperHour w = Checks.townOf("p0,0,3;o0,2,0;o1,2,0;o3,4,0;");
        C.due("as much by two", w.best(-1), 4);
        C.due("the shortest", w.best(-2), 1);
        C.due("who", w.best(0), 2);
    }

    private static void soonestNumbers() {
        C.part("SOONEST: the HOUR (k = -1), the k-th (0 on; NONE: the row is not so long)");
        PaperHour x = Checks.townOf(SIX);
        for (int k : new int[] {-2, 6, 7, LOW, HIGH}) {
            C.due("k " + k, x.soonest(1, k), BAD);
        }
        for (int readers : new int[] {-1, 64, 65, 128, LOW, HIGH}) {
            C.due("of " + readers, x.soonest(readers, -1), BAD);
        }
        for (int n = 1; n <= 6; n++) {
            PaperHour y = Checks.townOf(POWERS.substring(0, n < 5 ? 8 + 7 * n : 36 + 8 * (n - 4)));
            int all = (1 << n) - 1;
            C.due("all", y.soonest(all, -1), n);
            C.due("the last", y.soonest(all, n - 1), n - 1);
            C.due("none behind", n == 6 ? NONE : y.soonest(all, n), NONE);
            C.due("one more than there are", y.soonest(all + 1, -1), BAD);
        }
    }

    private static void soonestNowIfThereAreNone() {
        C.part("SOONEST: that HOUR (now, if there are none)");
        PaperHour x = Checks.townOf(SIX);
        C.due("at first", x.soonest(0, -1), 0);
        C.due("no first", x.soonest(0, 0), NONE);
        C.due("no sixth", x.soonest(0, 5), NONE);
        x.give(4);
        C.due("who has READ it is not told", x.soonest(16, -1), 2);
        C.due("nor in the row", x.soonest(16, 0), NONE);
        C.due("the other alone", x.soonest(24, 0), 3);
        C.due("no second", x.soonest(24, 1), NONE);
        for (int k = 0; k < 41; k++) {
            x.pause(24);
        }
        C.due("far behind LAST", x.soonest(16, -1), 986);
        C.due("of nobody", x.soonest(0, -1), 986);
    }

    private static void soonestByNone() {
        C.part("SOONEST: NONE: by none; of several the first");
        PaperHour x = Checks.townOf("p5,0,4;o3,0,0;o7,0,0;o5,0,0;");
        C.due("at LAST none of both", x.soonest(3, -1), NONE);
        C.due("no first", x.soonest(3, 0), NONE);
        C.due("by one row", x.soonest(5, -1), 4);
        C.due("he first", x.soonest(5, 0), 2);
        C.due("then he, at 3", x.soonest(5, 1), 0);
        PaperHour y = Checks.townOf("p5,0,60;o7,0,0;o3,0,0;o5,0,0;");
        C.due("of several as soon", y.soonest(7, -1), 9);
        C.due("first", y.soonest(7, 0), 0);
        C.due("second", y.soonest(7, 1), 2);
        C.due("third", y.soonest(7, 2), 1);
        PaperHour z = Checks.townOf("p0,0,5;o2,0,0;o4,0,0;");
        C.due("at LAST", z.soonest(3, -1), 6);
        z.pause(1);
        C.due("an hour late", z.soonest(3, -1), NONE);
        C.due("one of them is not enough", z.soonest(3, 0), NONE);
    }

    private static void copiesNumbers() {
        C.part("COPIES (m 1 to 3), k -1 to 5; NONE: no such READER");
        PaperHour x = Checks.townOf("p0,20,60;o0,1,0;o0,2,0;");
        for (int m : new int[] {0, -1, 4, LOW, HIGH}) {
            C.due("m " + m, x.copies(m, -1), BAD);
        }
        for (int k : new int[] {-2, 6, LOW, HIGH}) {
            C.due("k " + k, x.copies(1, k), BAD);
        }
        for (int m = 1; m <= 3; m++) {
            C.due("below 0, told", x.copies(m, -1), 1000 + 3 - 20 * m);
            C.due("first", x.copies(m, 0), 0);
            C.due("second", x.copies(m, 1), 0);
            for (int k = 2; k <= 5; k++) {
                C.due("no such reader", x.copies(m, k), NONE);
            }
        }
        C.due("of nobody", Checks.townOf("p0,20,0;").copies(3, -1), 940);
        PaperHour most = Checks.townOf("p0,0,60;o0,30,0;o0,30,0;o0,30,0;o0,30,0;o0,30,0;o0,30,0;");
        C.due("most of all", most.copies(3, -1), 1180);
        C.due("the sixth", most.copies(3, 5), 0);
    }

    private static void copiesOfSeveral() {
        C.part("COPIES: of several the first (reader by reader, copies 0 on, then none)");
        PaperHour x = Checks.townOf("p0,0,60;s0,0,0;s0,5,0;s0,5,0;s0,5,0;");
        // one spy is first of each copy; who brings nothing either way goes to copy 0, behind that spy
        dueWhich(x, 1, 0, 0, 0, 0);
        dueWhich(x, 2, 0, 0, 0, 1);
        dueWhich(x, 3, 0, 0, 1, 2);
        PaperHour far = Checks.townOf("p0,0,0;o0,5,0;o0,5,0;o1,5,0;o0,5,0;");
        dueWhich(far, 1, 0, 3, 3, 3);
        dueWhich(far, 2, 0, 1, 3, 3);
        dueWhich(far, 3, 0, 1, 3, 2);
        C.due("none for the fourth", far.copies(3, -1), 1015);
        C.part("COPIES: by which nothing is earned, behind one by which something was");
        PaperHour nothing = Checks.townOf("p0,1,60;o0,0,0;o0,0,0;o9,0,0;");
        nothing.value(1, 5);
        nothing.move(0, 9);
        dueWhich(nothing, 3, 0, 0, 0);
        nothing.value(1, 0);
        dueWhich(nothing, 3, 0, 0, 0);
        C.due("less STAMP alone", nothing.copies(3, -1), 997);
        PaperHour late = Checks.townOf("p0,0,4;o5,9,0;o4,9,0;o0,9,0;");
        dueWhich(late, 1, 3, 0, 3);
        dueWhich(late, 2, 3, 0, 1);
        late.value(1, 0);
        late.value(2, 0);
        dueWhich(late, 1, 3, 0, 3);
        dueWhich(late, 3, 3, 0, 1);
        late.move(1, 5);
        late.move(2, 5);
        dueWhich(late, 2, 3, 3, 3);
        C.due("to nobody", late.copies(2, -1), 1000);
    }

    private static void dueWhich(PaperHour x, int m, int... which) {
        for (int k = 0; k < which.length; k++) {
            C.due(m + " copies, reader " + k, x.copies(m, k), which[k]);
        }
    }

    private static void copiesByThemselves() {
        C.part("COPIES: all new, READ by nobody (of each copy by itself)");
        PaperHour x = Checks.townOf("p0,1,2;s1,9,0;s1,9,0;a1,1,1;o0,3,0;");
        int ahead = x.copies(3, -1);
        C.due("spies of two copies, aloud by all at his place", ahead, 1000 + 9 + 9 + 3 + 2 - 3);
        for (int k = 0; k < 4; k++) {
            x.give(3 - k);
            x.pause(24);
            C.due("whatever was given", x.copies(3, -1), ahead);
        }
        x.move(3, 9);
        C.due("where he is now", x.copies(3, -1), ahead - 3);
        C.due("he gets none", x.copies(3, 3), 3);
        x.value(0, 30);
        C.due("what it is worth now", x.copies(3, -1), ahead - 3 + 21);
    }

    // ---- rows that are told

    private static void rowsThatAreTold() {
        toldNumbers();
        toldPlaces();
        noReaderOrTwice();
        fitsBits();
        fitsExactly();
        lostInLowestTerms();
        lostOrMore();
    }

    private static void toldNumbers() {
        C.part("n ITEMS, 1 to 6; E (0 to 999); c 0 to 10; what");
        PaperHour x = Checks.townOf(POWERS);
        x.row(0, 0, 6);
        setAll(x, 0, 0, 1, 2, 3, 4, 5);
        for (int n : new int[] {0, -1, 7, LOW, HIGH}) {
            C.due("fits, n " + n, x.fits(0, 0, 0, n, 1, 0), BAD);
            C.due("lost, n " + n, x.lost(0, 0, n, 0, 1, 0), BAD);
        }
        for (int e : new int[] {-1, 1000, LOW, HIGH}) {
            C.due("fits, E " + e, x.fits(0, 0, 0, 1, e, 0), BAD);
            C.due("lost, E " + e, x.lost(0, 0, 1, 0, e, 0), BAD);
        }
        for (int row : new int[] {-1, 8, LOW, HIGH}) {
            C.due("fits, row " + row, x.fits(0, row, 0, 1, 1, 0), BAD);
            C.due("lost, row " + row, x.lost(row, 0, 1, 0, 1, 0), BAD);
        }
        for (int c : new int[] {-1, 11, LOW, HIGH}) {
            C.due("lost, c " + c, x.lost(0, 0, 1, c, 1, 0), BAD);
        }
        for (int what : new int[] {-1, 3, LOW, HIGH}) {
            C.due("fits, what " + what, x.fits(0, 0, 0, 1, 1, what), BAD);
        }
        for (int what : new int[] {-1, 2, LOW, HIGH}) {
            C.due("lost, what " + what, x.lost(0, 0, 1, 0, 1, what), BAD);
        }
        int sum = 0;
        for (int n = 1; n <= 6; n++) {
            sum += n == 6 ? 30 : 1 << n - 1;
            C.due("fits of " + n, x.fits(0, 0, 0, n, sum, 1), 1023);
            C.due("lost of " + n, x.lost(0, 0, n, 0, sum, 0), 1);
            C.due("lost of " + n + ", more", x.lost(0, 0, n, 0, sum + 1, 0), 0);
        }
        C.due("fits, E 999", x.fits(0, 0, 0, 6, 999, 0), 0);
        C.due("lost, E 999", x.lost(0, 0, 6, 0, 999, 0), 0);
    }

    private static void toldPlaces() {
        C.part("n ITEMS of a ROW from i on: PLACE");
        PaperHour x = Checks.townOf(POWERS);
        x.row(0, 2, 40);
        x.row(1, 2, 0);
        for (int i = 34; i < 40; i++) {
            x.set(0, i, i - 34);
        }
        C.due("the last six", x.fits(0, 0, 34, 6, 61, 1), 1023);
        C.due("the last six, lost", x.lost(0, 34, 6, 0, 61, 0), 1);
        C.due("the last", x.fits(5, 0, 39, 1, 30, 1), 1023);
        for (int i : new int[] {-1, 35, 39, 40, LOW, HIGH}) {
            C.due("six from " + i, x.fits(0, 0, i, 6, 61, 1), PLACE);
            C.due("six from " + i + ", lost", x.lost(0, i, 6, 0, 61, 0), PLACE);
        }
        C.due("one from 40", x.fits(0, 0, 40, 1, 0, 0), PLACE);
        C.due("one from 40, lost", x.lost(0, 40, 1, 0, 0, 0), PLACE);
        C.due("one of an empty one", x.fits(0, 1, 0, 1, 0, 0), PLACE);
        C.due("one of an empty one, lost", x.lost(1, 0, 1, 0, 0, 0), PLACE);
        C.due("of a missing one", x.fits(0, 2, 0, 1, 0, 0), NULL);
        C.due("of a missing one, lost", x.lost(2, 0, 1, 0, 0, 0), NULL);
    }

    private static void noReaderOrTwice() {
        C.part("one that is no READER, one twice: he can not be GIVEN it");
        PaperHour x = Checks.townOf("p0,0,60;o0,0,0;o0,0,0;o0,0,0;");
        x.row(0, 2, 3);
        setAll(x, 0, 1, 2, 0);
        C.due("such as can", x.lost(0, 0, 3, 5, 0, 0), 1);
        C.due("such as can, of 0", x.fits(0, 0, 0, 3, 0, 2), 1023);
        for (int at = 0; at < 3; at++) {
            for (int no : new int[] {-1, 3, 6, 31, 32, 33, 64, LOW, HIGH}) {
                setAll(x, 0, 1, 2, 0);
                x.set(0, at, no);
                C.due("fits, " + no + " at " + at, x.fits(0, 0, 0, 3, 0, 2), 0);
                C.due("lost, " + no + " at " + at, x.lost(0, 0, 3, 5, 0, 0), 0);
                C.due("lost, " + no + " at " + at + ", below", x.lost(0, 0, 3, 5, 0, 1), 1);
            }
        }
        setAll(x, 0, 1, 2, 1);
        C.due("twice", x.fits(0, 0, 0, 3, 0, 2), 0);
        C.due("twice, lost", x.lost(0, 0, 3, 0, 0, 0), 0);
        C.due("but once of these", x.lost(0, 1, 2, 0, 0, 0), 1);
        x.give(2);
        C.due("has READ it", x.fits(0, 0, 1, 1, 0, 0), 0);
        C.due("has READ it, lost", x.lost(0, 1, 1, 0, 0, 0), 0);
        C.due("has READ it, lost, below", x.lost(0, 1, 1, 0, 0, 1), 1);
    }

    private static void fitsBits() {
        C.part("KINDS (bits 1 to 5); LATE (0 to 9, bits); PLACES (0 to 9, bits)");
        PaperHour x = Checks.townOf("p0,0,60;o0,7,0;o9,0,0;");
        x.row(0, 0, 1);
        C.due("every kind", x.fits(0, 0, 0, 1, 7, 0), 62);
        C.due("every late", x.fits(0, 0, 0, 1, 7, 1), 1023);
        C.due("every place", x.fits(0, 0, 0, 1, 7, 2), 1023);
        PaperHour f = Checks.townOf("p0,0,60;f3,27,5;");
        f.row(0, 0, 1);
        C.due("late 0", f.fits(0, 0, 0, 1, 27, 1), 1);
        C.due("late 9", f.fits(0, 0, 0, 1, 0, 1), 512);
        C.due("place 0", f.fits(0, 0, 0, 1, 27, 2), 1);
        C.due("place 5", f.fits(0, 0, 0, 1, 2, 2), 32);
        C.due("place 6 on", f.fits(0, 0, 0, 1, 0, 2), 1023 - 63);
        PaperHour last = Checks.townOf("p9,0,3;o9,1,0;");
        last.row(0, 0, 1);
        C.due("where it comes at LAST or sooner", last.fits(0, 0, 0, 1, 1, 2), 1023 - 63);
        last.give(0);
        C.due("who has READ it, by no kind", last.fits(0, 0, 0, 1, 1, 0), 0);
        C.due("who has READ it, by no kind, of 0", last.fits(0, 0, 0, 1, 0, 0), 0);
    }

    private static void fitsExactly() {
        C.part("E how much is EARNED (more) by that");
        PaperHour x = Checks.townOf("p0,0,60;o0,30,0;f0,9,1;");
        x.row(0, 0, 1);
        x.set(0, 0, 1);
        x.give(0);
        C.due("not what was", x.fits(1, 0, 0, 1, 38, 0), 0);
        C.due("one less", x.fits(1, 0, 0, 1, 7, 0), 0);
        C.due("more", x.fits(1, 0, 0, 1, 8, 0), 2);
        C.due("one who reads aloud", x.fits(1, 0, 0, 1, 9, 0), 8 + 16 + 32);
        C.due("a spy", x.fits(1, 0, 0, 1, 0, 0), 4);
        C.due("more: lost", x.lost(0, 0, 1, 0, 9, 0), 0);
    }

    private static void lostInLowestTerms() {
        C.part("a fraction in lowest terms (0 is 0 by 1)");
        PaperHour x = Checks.townOf("p0,0,60;o0,1,0;o0,1,0;o0,1,0;o0,1,0;o0,1,0;o0,1,0;");
        x.row(0, 0, 6);
        setAll(x, 0, 0, 1, 2, 3, 4, 5);
        int[] above = {1, 9, 4, 7, 3, 1, 2, 3, 1, 1, 0};
        int[] below = {1, 10, 5, 10, 5, 2, 5, 10, 5, 10, 1};
        for (int c = 0; c <= 10; c++) {
            int a = 1;
            int b = 1;
            for (int e = 0; e <= 6; e++) {
                C.due("above, c " + c + " E " + e, x.lost(0, 0, 6, c, e, 0), a);
                C.due("below, c " + c + " E " + e, x.lost(0, 0, 6, c, e, 1), b);
                a *= above[c];
                b *= below[c];
            }
            C.due("above, c " + c + " E 7", x.lost(0, 0, 6, c, 7, 0), 0);
            C.due("below, c " + c + " E 7", x.lost(0, 0, 6, c, 7, 1), 1);
        }
    }

    private static void lostOrMore() {
        C.part("that E, or more, is EARNED");
        PaperHour x = Checks.townOf("p0,0,60;o0,5,0;f0,0,0;o0,5,0;");
        x.row(0, 0, 3);
        setAll(x, 0, 0, 1, 2);
        C.due("0 is earned, whatever is lost", x.lost(0, 0, 3, 10, 0, 0), 1);
        C.due("5", x.lost(0, 0, 3, 1, 5, 1), 10);
        C.due("4, or more", x.lost(0, 0, 3, 1, 4, 1), 10);
        C.due("6, or more: by the third", x.lost(0, 0, 3, 1, 6, 1), 1000);
        C.due("11", x.lost(0, 0, 3, 1, 11, 1), 1);
        PaperHour hour = Checks.townOf("p0,0,1;h0,5,0;o0,5,0;");
        hour.row(0, 0, 2);
        setAll(hour, 0, 0, 1);
        C.due("one of them too late: 0 by 1", hour.lost(0, 0, 2, 1, 5, 0), 0);
        C.due("one of them too late, below", hour.lost(0, 0, 2, 1, 5, 1), 1);
        C.due("one of them too late, of nothing", hour.lost(0, 0, 2, 1, 0, 0), 0);
        C.due("without him", hour.lost(0, 0, 1, 1, 5, 0), 9);
    }

    // ---- days

    private static void days() {
        daysNumbers();
        daysByARestBeyondAnInt();
        daysWait();
    }

    private static void daysNumbers() {
        C.part("DAYS of n (0 to 60) by a SEED (1 to 999999)");
        PaperHour x = Checks.townOf(POWERS);
        for (int n : new int[] {-1, 61, LOW, HIGH}) {
            C.due("n " + n, x.drawn(n, 1, 0), BAD);
        }
        for (int seed : new int[] {0, -1, 1000000, LOW, HIGH}) {
            C.due("seed " + seed, x.drawn(1, seed, 0), BAD);
        }
        for (int what : new int[] {-1, 2, LOW, HIGH}) {
            C.due("what " + what, x.drawn(1, 1, what), BAD);
        }
        C.due("none", x.drawn(0, 1, 1), 0);
        C.due("none, earned", x.drawn(0, 999999, 0), 0);
        C.due("sixty", x.drawn(60, 1, 1), 63);
        C.due("sixty, earned", x.drawn(60, 999999, 0), 61);
    }

    private static void daysByARestBeyondAnInt() {
        C.part("X becomes the rest of (X times 16807) by 2147483647");
        PaperHour x = Checks.townOf(POWERS);
        // the rests by 6: of 999999 2 4 3 3 4 0 2 0, of 1 1 1 5 2 4 2 0 2, of 7 1 1 0 5 1 1 0 4
        int[][] who = {{999999, 0, 4, 20, 28, 28, 28, 29, 29, 29}, {1, 0, 2, 2, 34, 38, 54, 54, 55, 55},
            {7, 0, 2, 2, 3, 35, 35, 35, 35, 51}};
        for (int[] bySeed : who) {
            for (int n = 0; n <= 8; n++) {
                C.due("seed " + bySeed[0] + ", days " + n, x.drawn(n, bySeed[0], 1), bySeed[n + 1]);
            }
        }
    }

    private static void daysWait() {
        C.part("if it can be GIVEN to the READER, it is, else it waits 1 HOUR (none there: waits)");
        PaperHour one = Checks.townOf("p0,0,4;f3,9,1;");
        C.due("given at once", one.drawn(1, 5, 0), 6);
        C.due("then waits", one.drawn(60, 5, 0), 6);
        one.pause(2);
        C.due("too late", one.drawn(60, 5, 1), 0);
        // by 2 the rests of 1 are 1 1 1 0: the second has it at 0, it waits to 3, and then comes to the first
        PaperHour two = Checks.townOf("p0,0,3;f0,9,1;f0,9,1;");
        C.due("four days", two.drawn(4, 1, 0), 9 + 6);
        two.value(0, 2);
        C.due("stale by waiting", two.drawn(4, 1, 0), 9);
        PaperHour late = Checks.townOf("p0,0,2;f0,9,1;f0,9,1;");
        C.due("waited too long", late.drawn(4, 1, 1), 2);
        late.give(0);
        C.due("all in all", late.drawn(1, 1, 0), 9 + 8);
        C.due("all who have", late.drawn(1, 1, 1), 3);
        PaperHour none = Checks.townOf("p0,0,60;");
        C.due("none there", none.drawn(60, 1, 0), 0);
        for (int k = 0; k < 41; k++) {
            none.pause(24);
        }
        none.pause(15);
        C.due("at 999", none.drawn(60, 1, 1), 0);
        C.due("at 999 yet", none.count(2), 999);
    }

    // ---- images

    private static void images() {
        C.part("an IMAGE (0, 1) is kept of the TOWN");
        PaperHour x = new PaperHour();
        for (int k : new int[] {-1, 2, LOW, HIGH}) {
            C.due("image " + k, x.image(k), BAD);
            C.due("restore " + k, x.restore(k), BAD);
        }
        C.due("no TOWN: 0", x.image(0), STATE);
        C.due("no TOWN: 1", x.image(1), STATE);
        townOf(x, "p1,1,x");
        C.due("no TOWN by a fault", x.image(0), STATE);
        townOf(x, SIX);
        C.due("none was kept: 0", x.restore(0), STATE);
        C.due("1", x.image(1), 1);
        C.due("none was kept: 0 yet", x.restore(0), STATE);
        x.give(0);
        C.due("0", x.image(0), 1);
        C.due("acts stay", x.count(6), 1);
        C.due("refused ones restore nothing", x.restore(2), BAD);
        dueStands(x, 5, 2, 1, 18);
        C.part("restore: no ACT can be undone then");
        C.due("restore 1", x.restore(1), 1);
        dueStands(x, 4, 0, 0, 0);
        C.due("no ACT", x.undo(), STATE);
        C.due("restore 0", x.restore(0), 1);
        dueStands(x, 5, 2, 1, 18);
        C.due("no ACT counts", x.count(6), 0);
        C.due("an act behind it", x.give(4), 9);
        C.due("it can be undone", x.undo(), 0);
        dueStands(x, 5, 2, 1, 18);
        townOf(x, "p0,0,0;");
        C.due("over another TOWN", x.restore(1), 1);
        C.due("readers", x.count(1), 6);
        C.due("late", x.reader(4, 2), 5);
    }

    // ---- asked

    private static void asked() {
        takenAs();
        asksNumbers();
        tracesEnds();
        counts();
        statusOfCallsWithARow();
    }

    private static void takenAs() {
        C.part("a READER is taken as one of a KIND (0 .. 5); KIND: it is no such one");
        PaperHour x = Checks.townOf("p0,0,60;f0,1,1;s0,1,1;a0,1,1;o0,1,1;h0,1,1;");
        String[] is = {"110000", "111000", "110100", "100010", "100011"};
        for (int reader = 0; reader < 5; reader++) {
            C.due("kind", x.kind(reader), reader + 1);
            for (int kind = 0; kind <= 5; kind++) {
                C.due(reader + " as " + kind, x.as(reader, kind), is[reader].charAt(kind) == '1' ? reader : KIND);
            }
            for (int kind : new int[] {-1, 6, LOW, HIGH}) {
                C.due(reader + " as " + kind, x.as(reader, kind), BAD);
            }
        }
    }

    private static void asksNumbers() {
        C.part("an ASK (0, 1) of a READER; BAD (THE TRACE stays then)");
        PaperHour x = Checks.townOf(SIX);
        C.due("the longest", x.ask(1, 0), -26);
        for (int what : new int[] {-1, 2, LOW, HIGH}) {
            C.due("what " + what, x.ask(0, what), BAD);
            dueTrace(x, 12, 11, 10, 24, 21, 20);
        }
        C.due("no such reader", x.ask(6, 0), BAD);
        dueTrace(x, 12, 11, 10, 24, 21, 20);
        C.due("the shortest", x.ask(3, 0), 7 - 100);
        dueTrace(x, 13, 10);
        C.due("number 0, place 9", x.move(0, 9), 5);
        C.due("mark of 0", x.ask(0, 1), 9);
        dueTrace(x, 21, 20);
        x.value(4, 0);
        C.due("worth 0", x.ask(4, 0), -200);
        C.due("worth 0, mark", x.ask(4, 1), 204);
        dueTrace(x, 23, 20, 14, 13, 10);
        x.value(1, 30);
        x.move(1, 9);
        C.due("most", x.ask(1, 0), -50);
    }

    private static void dueTrace(PaperHour x, int... bodies) {
        for (int i = 0; i < bodies.length; i++) {
            C.due("trace " + i, x.trace(i), bodies[i]);
        }
        C.due("none behind", x.trace(bodies.length), NONE);
    }

    private static void tracesEnds() {
        C.part("number i of THE TRACE; NONE");
        PaperHour x = Checks.townOf(SIX);
        C.due("empty", x.trace(0), NONE);
        x.ask(0, 0);
        for (int i : new int[] {-1, 4, 15, 16, 17, LOW, HIGH}) {
            C.due("number " + i, x.trace(i), NONE);
        }
        C.due("its last", x.trace(3), 20);
        x.give(0);
        x.pause(1);
        C.due("other calls leave it", x.trace(3), 20);
        x.ask(3, 0);
        C.due("empty ahead of the next", x.trace(2), NONE);
    }

    private static void counts() {
        C.part("how many: 0 ROWS .. 7 bytes on the tape");
        PaperHour x = new PaperHour();
        for (int what : new int[] {-1, 8, LOW, HIGH}) {
            C.due("what " + what, x.count(what), BAD);
        }
        for (int what = 0; what <= 7; what++) {
            C.due("none of " + what, x.count(what), 0);
        }
        townOf(x, POWERS);
        for (int reader = 0; reader < 6; reader++) {
            x.give(reader);
            x.row(reader, 0, 0);
        }
        x.feed(0);
        int[] all = {6, 6, 6, 0, 63, 61, 6, 1};
        for (int what = 0; what <= 7; what++) {
            C.due("count " + what, x.count(what), all[what]);
        }
    }

    private static void statusOfCallsWithARow() {
        C.part("status: of the latest call with a ROW, or as(), that was not BAD, STATE, FULL");
        PaperHour x = new PaperHour();
        C.due("there was none", x.status(), 0);
        x.row(0, 0, 41);
        C.due("BAD is none", x.status(), 0);
        x.row(0, 0, -1);
        C.due("SIZE", x.status(), 4);
        x.lost(0, 0, 1, 0, 0, 0);
        C.due("STATE leaves it", x.status(), 4);
        x.fits(0, 0, 0, 1, 0, 0);
        C.due("BAD leaves it", x.status(), 4);
        townOf(x, SIX);
        x.give(0);
        x.give(0);
        x.pause(25);
        x.image(3);
        x.kind(9);
        x.ask(0, 3);
        C.due("other calls leave it", x.status(), 4);
        x.row(0, 0, 0);
        C.due("it had none: row", x.status(), 0);
        dueClears(x, 1, () -> x.set(0, 0, 0));
        dueClears(x, 2, () -> x.copy(0, 0, 0, 0, 1));
        dueClears(x, 3, () -> x.drop(7));
        dueClears(x, 4, () -> x.as(0, 2));
        dueClears(x, 5, () -> x.fits(0, 0, 0, 2, 0, 0));
        dueClears(x, 6, () -> x.lost(0, 1, 1, 0, 0, 0));
    }

    private interface Call {
        int answer();
    }

    /** A finding is told, and gone behind each of the calls that can have one, when it has none. */
    private static void dueClears(PaperHour x, int round, Call finding) {
        x.row(0, 0, 0);
        int number = -1000010 - finding.answer();
        C.due("finding " + round, x.status(), number);
        C.due("told again", x.status(), number);
        x.row(0, 0, 1);
        C.due("row", x.status(), 0);
        x.row(0, 0, -1);
        x.set(0, 0, 2);
        C.due("set", x.status(), 0);
        x.row(0, 0, -1);
        x.copy(0, 0, 0, 0, 1);
        C.due("copy", x.status(), 0);
        x.row(0, 0, -1);
        x.as(0, 0);
        C.due("as", x.status(), 0);
        x.row(0, 0, -1);
        x.fits(0, 0, 0, 1, 0, 0);
        C.due("fits", x.status(), 0);
        x.row(0, 0, -1);
        x.lost(0, 0, 1, 0, 0, 0);
        C.due("lost", x.status(), 0);
        x.row(0, 0, -1);
        x.drop(0);
        C.due("drop", x.status(), 0);
    }
}
