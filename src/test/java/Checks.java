/** Counts answers that are not as due, and tells them. */
final class Checks {
    private int right = 0;
    private int wrong = 0;
    private String part = "";

    void part(String name) {
        part = name;
    }

    void due(String call, long got, long want) {
        if (got == want) {
            right++;
        } else {
            wrong++;
            System.out.println(part + ": " + call + " answered " + got + ", due is " + want);
        }
    }

    void holds(String claim, boolean so) {
        due(claim, so ? 1 : 0, 1);
    }

    /** Ends the program with 1, if an answer was wrong. */
    void end() {
        System.out.println(right + " answers as due, " + wrong + " not");
        if (wrong != 0) {
            System.exit(1);
        }
    }

    static int feedAll(PaperHour x, String text) {
        int answer = 0;
        for (int i = 0; i < text.length(); i++) {
            answer = x.feed(text.charAt(i));
        }
        return answer;
    }

    static PaperHour townOf(String text) {
        PaperHour x = new PaperHour();
        feedAll(x, text);
        if (x.town() < 0) {
            throw new IllegalStateException("no town: " + text);
        }
        return x;
    }

    /** All at the press, ever worthier, so that what is earned tells who has read it. */
    static final String POWERS = "p0,0,60;o0,1,0;o0,2,0;o0,4,0;o0,8,0;o0,16,0;o0,30,0;";

    private static final int[] WORTHS = {1, 2, 4, 8, 16, 30};

    /**
     * An item from 0 to 5, which no call tells outright: by how much that reader would bring in the town above, which is
     * fed if there is none. -1 for what is no reader.
     */
    static int itemOf(PaperHour x, int row, int i) {
        if (x.count(1) == 0) {
            feedAll(x, POWERS);
            x.town();
        }
        int item = -1;
        for (int worth : WORTHS) {
            item += x.lost(row, i, 1, 0, worth, 0) == 1 ? 1 : 0;
        }
        return item;
    }
}
