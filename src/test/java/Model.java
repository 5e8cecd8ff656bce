import java.util.ArrayDeque;
import java.util.ArrayList;
import java.util.Comparator;
import java.util.Deque;
import java.util.List;
import java.util.regex.Matcher;
import java.util.regex.Pattern;

/**
 * The document once more, written for plainness with all of the Java library: towns that never change, all rows
 * listed and then compared, refusals thrown. ModelTest holds PaperHour against it.
 */
final class Model {
    static final int NONE = -1000000, BAD = -1000001, STATE = -1000002, FULL = -1000003;

    private static final class Refusal extends RuntimeException {
        private static final long serialVersionUID = 1;
        final int answer;

        Refusal(int answer) {
            super(null, null, false, false);
            this.answer = answer;
        }
    }

    private interface Call {
        int answer();
    }

    record Reader(char sort, int place, int worth, int late, boolean hasRead) {
        boolean fresh() {
            return "fsa".indexOf(sort) >= 0;
        }
    }

    record Town(int press, int stamp, int last, List<Reader> readers, int at, int hour, int earned) {
        Town with(int number, Reader reader) {
            List<Reader> others = new ArrayList<>(readers);
            others.set(number, reader);
            return new Town(press, stamp, last, List.copyOf(others), at, hour, earned);
        }

        Town later(int hours) {
            return new Town(press, stamp, last, readers, at, hour + hours, earned);
        }

        Town anew() {
            List<Reader> all = new ArrayList<>();
            for (Reader r : readers) {
                all.add(new Reader(r.sort, r.place, r.worth, r.late, false));
            }
            return new Town(press, stamp, last, List.copyOf(all), press, 0, 0);
        }

        int comes(int number) {
            int place = readers.get(number).place;
            return hour + (at > place ? at - place : place - at);
        }

        boolean can(int number) {
            return number >= 0 && number < readers.size() && !readers.get(number).hasRead && comes(number) <= last;
        }

        int brings(int number) {
            Reader r = readers.get(number);
            if (!r.fresh()) {
                return r.worth;
            }
            if (r.sort == 's' && readers.stream().anyMatch(Reader::hasRead)) {
                return 0;
            }
            int bring = Math.max(r.worth - comes(number) * r.late, 0);
            if (r.sort == 'a') {
                bring += (int) readers.stream().filter(o -> o.place == r.place).count() - 1;
            }
            return bring;
        }

        Town given(int number) {
            Reader r = readers.get(number);
            Town then = with(number, new Reader(r.sort, r.place, r.worth, r.late, true));
            return new Town(press, stamp, last, then.readers, r.place, comes(number) + (r.sort == 'h' ? 2 : 1),
                    earned + brings(number));
        }

        /** Null, if one of them cannot be given it. */
        Town given(List<Integer> row) {
            Town then = this;
            for (int number : row) {
                if (!then.can(number)) {
                    return null;
                }
                then = then.given(number);
            }
            return then;
        }

        int who() {
            int bits = 0;
            for (int i = 0; i < readers.size(); i++) {
                bits += readers.get(i).hasRead ? 1 << i : 0;
            }
            return bits;
        }
    }

    private static final class Row {
        final int lane;
        final int[] items;

        Row(int lane, int n) {
            this.lane = lane;
            this.items = new int[n];
        }
    }

    private final Row[] rows = new Row[8];
    private final StringBuilder tape = new StringBuilder();
    private int fault;
    private int status;
    private Town town;
    private final Deque<Town> acts = new ArrayDeque<>();
    private final Town[] images = new Town[2];
    private List<Integer> trace = new ArrayList<>();

    private static void bad(boolean is) {
        refuse(is, BAD);
    }

    private static void refuse(boolean is, int answer) {
        if (is) {
            throw new Refusal(answer);
        }
    }

    private static void find(boolean is, int number) {
        refuse(is, -1000010 - number);
    }

    private static int answer(Call call) {
        try {
            return call.answer();
        } catch (Refusal r) {
            return r.answer;
        }
    }

    /** A call that status() tells of. */
    private int told(Call call) {
        int answer = -1;
        try {
            answer = call.answer();
            status = 0;
        } catch (Refusal r) {
            answer = r.answer;
            if (answer <= -1000010) {
                status = -1000010 - answer;
            }
        }
        return answer;
    }

    private void rowNumber(int row) {
        bad(row < 0 || row > 7);
    }

    private void noReader(int reader) {
        bad(town == null || reader < 0 || reader >= town.readers.size());
    }

    private void noTown() {
        refuse(town == null, STATE);
    }

    private static void between(long v, long low, long high) {
        bad(v < low || v > high);
    }

    private static void places(Row row, long i, long n) {
        find(n < 0 || i < 0 || i + n > row.items.length, 2);
    }

    int row(int row, int lane, int n) {
        return told(() -> {
            rowNumber(row);
            between(lane, 0, 2);
            bad(n > 40);
            find(n < 0, 4);
            rows[row] = new Row(lane, n);
            return n;
        });
    }

    int set(int row, int i, int v) {
        return told(() -> {
            rowNumber(row);
            find(rows[row] == null, 1);
            places(rows[row], i, 1);
            int bits = 32 - (8 << rows[row].lane);
            rows[row].items[i] = v << bits >> bits;
            return rows[row].items[i];
        });
    }

    int copy(int a, int i, int b, int j, int n) {
        return told(() -> {
            rowNumber(a);
            rowNumber(b);
            find(rows[a] == null || rows[b] == null, 1);
            find(rows[a].lane != rows[b].lane, 5);
            places(rows[a], i, n);
            places(rows[b], j, n);
            int[] ahead = rows[a].items.clone();
            for (int k = 0; k < n; k++) {
                rows[b].items[j + k] = ahead[i + k];
            }
            return n;
        });
    }

    int drop(int row) {
        return told(() -> {
            rowNumber(row);
            find(rows[row] == null, 1);
            int n = rows[row].items.length;
            rows[row] = null;
            return n;
        });
    }

    int feed(int letter) {
        return answer(() -> {
            between(letter, 0, 255);
            refuse(tape.length() == 100, FULL);
            tape.append((char) letter);
            return tape.length();
        });
    }

    // A text is matched against what it would have to be, token by token: N0 to N5 are the numbers.
    private static final int[] TOPS = {9, 20, 60, 9, 30, 9};
    private static final String LAW = "p0,1,2;", READER = "R3,4,5;";
    private static final Pattern TOKEN = Pattern.compile("[a-z,;]|[0-9]+");

    int town() {
        String text = tape.toString();
        tape.setLength(0);
        String wanted = LAW;
        int[] numbers = new int[6];
        List<Reader> readers = new ArrayList<>();
        char sort = 0;
        int at = 0;
        while (at < text.length() || !wanted.isEmpty()) {
            if (wanted.isEmpty()) {
                wanted = READER;
            }
            char want = wanted.charAt(0);
            Matcher m = TOKEN.matcher(text);
            String token = m.find(at) && m.start() == at ? m.group() : "";
            boolean number = token.length() <= 2 && token.matches("[0-9]+");
            int fits = 1;
            if (want >= '0' && want <= '5') {
                fits = !number ? 1 : Integer.parseInt(token) > TOPS[want - '0'] ? 2 : 0;
                numbers[want - '0'] = fits == 0 ? Integer.parseInt(token) : 0;
            } else if (want == 'R') {
                fits = token.length() != 1 || "fsaoh".indexOf(token) < 0 ? 1 : readers.size() == 6 ? 3 : 0;
                sort = fits == 0 ? token.charAt(0) : 0;
            } else {
                fits = token.equals("" + want) ? 0 : 1;
            }
            if (fits != 0) {
                fault = fits;
                return -1000100 - at;
            }
            at += token.length();
            boolean inReader = wanted.endsWith("5;") || sort != 0 && want == ';';
            wanted = wanted.substring(1);
            if (wanted.isEmpty() && inReader) {
                readers.add(new Reader(sort, numbers[3], numbers[4], numbers[5], false));
            }
        }
        town = new Town(numbers[0], numbers[1], numbers[2], List.copyOf(readers), numbers[0], 0, 0);
        acts.clear();
        return readers.size();
    }

    int fault() {
        return fault;
    }

    private void act(Town then) {
        acts.addLast(town);
        if (acts.size() > 24) {
            acts.removeFirst();
        }
        town = then;
    }

    int give(int reader) {
        return answer(() -> {
            noReader(reader);
            refuse(!town.can(reader), STATE);
            int brings = town.brings(reader);
            act(town.given(reader));
            return brings;
        });
    }

    int pause(int n) {
        return answer(() -> {
            noTown();
            between(n, 1, 24);
            refuse(town.hour + n > 999, FULL);
            act(town.later(n));
            return town.hour;
        });
    }

    int value(int reader, int v) {
        return answer(() -> {
            noReader(reader);
            between(v, 0, 30);
            Reader r = town.readers.get(reader);
            act(town.with(reader, new Reader(r.sort, r.place, v, r.late, r.hasRead)));
            return r.worth;
        });
    }

    int move(int reader, int place) {
        return answer(() -> {
            noReader(reader);
            between(place, 0, 9);
            Reader r = town.readers.get(reader);
            act(town.with(reader, new Reader(r.sort, place, r.worth, r.late, r.hasRead)));
            return r.place;
        });
    }

    int undo() {
        return answer(() -> {
            refuse(acts.isEmpty(), STATE);
            town = acts.removeLast();
            return acts.size();
        });
    }

    int reader(int reader, int what) {
        return answer(() -> {
            noReader(reader);
            between(what, 0, 4);
            Reader r = town.readers.get(reader);
            int[] all = {r.place, r.worth, r.late, r.hasRead ? 1 : 0, town.can(reader) ? 1 : 0};
            return all[what];
        });
    }

    int would(int reader, int what) {
        return answer(() -> {
            noReader(reader);
            between(what, 0, 1);
            refuse(!town.can(reader), NONE);
            return what == 0 ? town.comes(reader) : town.brings(reader);
        });
    }

    /** All rows of some of n readers, one each at most, that are of the readers told. */
    private static void allRows(List<Integer> row, int n, int told, List<List<Integer>> into) {
        into.add(List.copyOf(row));
        for (int i = 0; i < n; i++) {
            if ((told & 1 << i) != 0 && !row.contains(i)) {
                List<Integer> longer = new ArrayList<>(row);
                longer.add(i);
                allRows(longer, n, told, into);
            }
        }
    }

    private static List<List<Integer>> rowsGivable(Town from, int told) {
        List<List<Integer>> all = new ArrayList<>();
        allRows(List.of(), from.readers.size(), told, all);
        all.removeIf(row -> from.given(row) == null);
        return all;
    }

    private static int compareByNumbers(List<Integer> a, List<Integer> b) {
        for (int i = 0; i < Math.min(a.size(), b.size()); i++) {
            if (!a.get(i).equals(b.get(i))) {
                return a.get(i) - b.get(i);
            }
        }
        return a.size() - b.size();
    }

    int best(int k) {
        return answer(() -> {
            noTown();
            between(k, -2, 5);
            List<List<Integer>> all = rowsGivable(town, 63);
            Comparator<List<Integer>> less = Comparator.comparingInt(row -> -town.given(row).earned);
            all.sort(less.thenComparingInt(List::size).thenComparing(Model::compareByNumbers));
            List<Integer> first = all.get(0);
            if (k == -1) {
                return town.given(first).earned - town.earned;
            }
            return k == -2 ? first.size() : k < first.size() ? first.get(k) : NONE;
        });
    }

    int soonest(int readers, int k) {
        return answer(() -> {
            noTown();
            between(readers, 0, (1 << town.readers.size()) - 1);
            between(k, -1, 5);
            int told = readers & ~town.who();
            List<List<Integer>> all = rowsGivable(town, told);
            all.removeIf(row -> row.size() != Integer.bitCount(told));
            refuse(all.isEmpty(), NONE);
            Comparator<List<Integer>> later = Comparator.comparingInt(row -> town.given(row).hour);
            all.sort(later.thenComparing(Model::compareByNumbers));
            List<Integer> first = all.get(0);
            return k == -1 ? town.given(first).hour : k < first.size() ? first.get(k) : NONE;
        });
    }

    int copies(int m, int k) {
        return answer(() -> {
            noTown();
            between(m, 1, 3);
            between(k, -1, 5);
            int n = town.readers.size();
            refuse(k >= n, NONE);
            Town anew = town.anew();
            Integer[] most = new Integer[1 << n];
            for (List<Integer> row : rowsGivable(anew, 63)) {
                Town then = anew.given(row);
                most[then.who()] = Math.max(then.earned, most[then.who()] == null ? 0 : most[then.who()]);
            }
            int found = -1;
            int[] which = null;
            int shares = (int) Math.pow(m + 1, n);
            for (int share = 0; share < shares; share++) {
                int[] whose = new int[n];
                int rest = share;
                for (int i = n - 1; i >= 0; i--) {
                    whose[i] = rest % (m + 1) == m ? 3 : rest % (m + 1);
                    rest /= m + 1;
                }
                int sum = 0;
                for (int copy = 0; copy < m; copy++) {
                    int set = 0;
                    for (int i = 0; i < n; i++) {
                        set += whose[i] == copy ? 1 << i : 0;
                    }
                    sum = most[set] == null ? -1000000 : sum + most[set];
                }
                if (sum > found) {
                    found = sum;
                    which = whose;
                }
            }
            return k == -1 ? found - m * town.stamp + 1000 : which[k];
        });
    }

    private List<Integer> rowOf(int row, int i, int n) {
        find(rows[row] == null, 1);
        places(rows[row], i, n);
        List<Integer> told = new ArrayList<>();
        for (int k = i; k < i + n; k++) {
            told.add(rows[row].items[k]);
        }
        return told;
    }

    int fits(int reader, int row, int i, int n, int e, int what) {
        return told(() -> {
            noReader(reader);
            rowNumber(row);
            between(n, 1, 6);
            between(e, 0, 999);
            between(what, 0, 2);
            List<Integer> told = rowOf(row, i, n);
            Reader r = town.readers.get(reader);
            int bits = 0;
            for (int v = 0; v < (what == 0 ? 5 : 10); v++) {
                Reader other = what == 0 ? new Reader("fsaoh".charAt(v), r.place, r.worth, r.late, r.hasRead)
                        : what == 1 ? new Reader(r.sort, r.place, r.worth, v, r.hasRead)
                        : new Reader(r.sort, v, r.worth, r.late, r.hasRead);
                Town then = town.with(reader, other).given(told);
                bits += then != null && then.earned - town.earned == e ? 1 << (what == 0 ? v + 1 : v) : 0;
            }
            return bits;
        });
    }

    int lost(int row, int i, int n, int c, int e, int what) {
        return told(() -> {
            noTown();
            rowNumber(row);
            between(n, 1, 6);
            between(c, 0, 10);
            between(e, 0, 999);
            between(what, 0, 1);
            List<Integer> told = rowOf(row, i, n);
            long above = 0;
            if (town.given(told) != null) {
                // summed over how many have had it when it is lost, in parts of ten to the n
                for (int had = 0; had <= n; had++) {
                    long parts = 1;
                    for (int k = 0; k < n; k++) {
                        parts *= k < had ? 10 - c : k == had ? c : 10;
                    }
                    above += town.given(told.subList(0, had)).earned - town.earned >= e ? parts : 0;
                }
            }
            long below = (long) Math.pow(10, n);
            for (int prime : new int[] {2, 5}) {
                while (above % prime == 0 && below % prime == 0) {
                    above /= prime;
                    below /= prime;
                }
            }
            return (int) (what == 0 ? above : above == 0 ? 1 : below);
        });
    }

    int drawn(int n, int seed, int what) {
        return answer(() -> {
            noTown();
            between(n, 0, 60);
            between(seed, 1, 999999);
            between(what, 0, 1);
            Town then = town;
            long x = seed;
            for (int day = 0; day < n; day++) {
                x = x * 16807 % 2147483647;
                int size = then.readers.size();
                then = size > 0 && then.can((int) (x % size)) ? then.given((int) (x % size)) : then.later(1);
            }
            return what == 0 ? then.earned : then.who();
        });
    }

    int image(int k) {
        return answer(() -> {
            between(k, 0, 1);
            noTown();
            images[k] = town;
            return 1;
        });
    }

    int restore(int k) {
        return answer(() -> {
            between(k, 0, 1);
            refuse(images[k] == null, STATE);
            town = images[k];
            acts.clear();
            return 1;
        });
    }

    int kind(int reader) {
        return answer(() -> {
            noReader(reader);
            return "fsaoh".indexOf(town.readers.get(reader).sort) + 1;
        });
    }

    int as(int reader, int kind) {
        return told(() -> {
            noReader(reader);
            between(kind, 0, 5);
            String kinds = new String[] {"fsaoh", "fsa", "s", "a", "oh", "h"}[kind];
            find(kinds.indexOf(town.readers.get(reader).sort) < 0, 3);
            return reader;
        });
    }

    int ask(int reader, int what) {
        return answer(() -> {
            noReader(reader);
            between(what, 0, 1);
            trace = new ArrayList<>();
            Reader r = town.readers.get(reader);
            Asked asked = r.sort == 's' ? new Spy() : r.sort == 'a' ? new Aloud() : r.sort == 'o' ? new Old()
                    : r.sort == 'h' ? new Hirer() : new Fresh();
            asked.r = r;
            asked.number = reader;
            return what == 0 ? asked.size() : asked.mark();
        });
    }

    private class Asked {
        Reader r;
        int number;

        int size() {
            trace.add(10);
            return r.worth;
        }

        int mark() {
            trace.add(20);
            return number;
        }
    }

    private class Fresh extends Asked {
        @Override
        int size() {
            trace.add(11);
            return super.size() + mark();
        }

        @Override
        int mark() {
            trace.add(21);
            return super.mark() + r.place;
        }
    }

    private final class Spy extends Fresh {
        @Override
        int size() {
            trace.add(12);
            return -super.size();
        }

        @Override
        int mark() {
            trace.add(24);
            return 2 * super.mark();
        }
    }

    private final class Aloud extends Fresh {
        @Override
        int mark() {
            trace.add(22);
            return super.mark() - 1000;
        }
    }

    private class Old extends Asked {
        @Override
        int size() {
            trace.add(13);
            return super.size() - 100;
        }

        @Override
        int mark() {
            trace.add(23);
            return super.mark() - size();
        }
    }

    private final class Hirer extends Old {
        @Override
        int size() {
            trace.add(14);
            return 2 * super.size();
        }
    }

    int trace(int i) {
        return i >= 0 && i < trace.size() && i < 16 ? trace.get(i) : NONE;
    }

    int count(int what) {
        return answer(() -> {
            between(what, 0, 7);
            int there = 0;
            for (Row row : rows) {
                there += row != null ? 1 : 0;
            }
            boolean none = town == null;
            int[] all = {there, none ? 0 : town.readers.size(), none ? 0 : town.hour, none ? 0 : town.at,
                none ? 0 : town.who(), none ? 0 : town.earned, acts.size(), tape.length()};
            return all[what];
        });
    }

    int status() {
        return status;
    }
}
