/** Counts answers that are not as due, and tells them. */
final class Checks {
    private int right = 0;
    private int wrong = 0;
    private String part = "";

    void part(String name) {
        part = name;
    }

    void due(String call, long got, long want) {
        if (got == want) {
            right++;
        } else {
            wrong++;
            System.out.println(part + ": " + call + " answered " + got + ", due is " + want);
        }
    }

    void holds(String claim, boolean so) {
        due(claim, so ? 1 : 0, 1);
    }

    /** Ends the program with 1, if an answer was wrong. */
    void end() {
        System.out.println(right + " answers as due, " + wrong + " not");
        if (wrong != 0) {
            System.exit(1);
        }
    }

    static int feedAll(PaperHour x, String text) {
        int answer = 0;
        for (int i = 0; i < text.length(); i++) {
            answer = x.feed(text.charAt(i));
        }
        return answer;
    }

    static PaperHour townOf(String text) {
        PaperHour x = new PaperHour();
        feedAll(x, text);
        if (x.town() < 0) {
            throw new IllegalStateException("no town: " + text);
        }
        return x;
    }
}
