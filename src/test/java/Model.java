import java.math.BigInteger;
import java.util.ArrayDeque;
import java.util.ArrayList;
import java.util.Deque;
import java.util.List;
import java.util.regex.Matcher;
import java.util.regex.Pattern;

/**
 * The document told a second time, as plainly and as slowly as can be: every row is tried, every choice of who does
 * a duty is weighed, every past is a copy. It shares no code and no way of counting with the class.
 */
final class Model {
    private static final Pattern TOKEN = Pattern.compile(" *(?:([a-z]+)|([0-9]+)|(;)|([^ ])|$)", Pattern.DOTALL);

    static final class Guest {
        int kind, want, can, duty = -1, tips = 10;

        Guest copy() {
            Guest g = new Guest();
            g.kind = kind;
            g.want = want;
            g.can = can;
            g.duty = duty;
            g.tips = tips;
            return g;
        }
    }

    static final class State {
        List<Guest> guests = new ArrayList<>();
        List<int[]> notes = new ArrayList<>();
        int hour, mood;
        Deque<State> past = new ArrayDeque<>();

        /** Without the past: what is in the past has none of its own. */
        State copy() {
            State s = new State();
            for (Guest g : guests) {
                s.guests.add(g.copy());
            }
            s.notes.addAll(notes);
            s.hour = hour;
            s.mood = mood;
            return s;
        }

        State copyWithPast() {
            State s = copy();
            s.past.addAll(past);
            return s;
        }
    }

    private State now = new State();
    private final State[] images = new State[2];
    private String text = "";
    private final int[] refused = new int[3];
    private BigInteger above = BigInteger.ZERO, below = BigInteger.ONE;

    private int bad(int answer) {
        refused[0]++;
        return answer;
    }

    private int no() {
        refused[1]++;
        return -3;
    }

    private int full() {
        refused[2]++;
        return -4;
    }

    private boolean there(int g) {
        return g >= 0 && g < now.guests.size();
    }

    private static boolean within(int n, int first, int last) {
        return first <= n && n <= last;
    }

    static int content(int kind, int q, int hour) {
        return switch (kind) {
            case 0 -> 5;
            case 1 -> q == 1 ? 8 : 5;
            case 2 -> 10;
            case 3 -> hour % 2 == 0 ? 3 : 5;
            case 4 -> hour % 4 == 0 ? 0 : q == 1 ? 8 : 5;
            default -> 6;
        };
    }

    static int workOf(int kind, int s) {
        return switch (kind) {
            case 0, 3 -> 2;
            case 1, 4 -> 1;
            case 2 -> 2 + s;
            default -> (2 + s) / 2;
        };
    }

    private static boolean able(Guest g, Guest h) {
        return (g.can & (1 << h.want)) != 0;
    }

    private static int server(State s, int h) {
        for (int g = 0; g < s.guests.size(); g++) {
            if (s.guests.get(g).duty == h && able(s.guests.get(g), s.guests.get(h))) {
                return g;
            }
        }
        return -1;
    }

    private static int contentOf(State s, int h) {
        int g = server(s, h);
        return g < 0 ? 0 : content(s.guests.get(h).kind, s.guests.get(g).kind, s.hour);
    }

    private static void pass(State s) {
        for (int h = 0; h < s.guests.size(); h++) {
            s.mood += contentOf(s, h);
        }
        for (int h = 0; h < s.guests.size(); h++) {
            int g = server(s, h);
            if (g >= 0 && s.guests.get(h).tips > 0) {
                s.guests.get(h).tips--;
                s.guests.get(g).tips++;
            }
        }
        s.hour++;
    }

    private void remember() {
        now.past.addLast(now.copy());
        while (now.past.size() > 8) {
            now.past.removeFirst();
        }
    }

    private static void rowsFrom(List<Guest> guests, int[] row, int g, List<int[]> found) {
        if (g == row.length) {
            found.add(row.clone());
            return;
        }
        next:
        for (int h = 0; h < row.length; h++) {
            for (int i = 0; i < g; i++) {
                if (row[i] == h) {
                    continue next;
                }
            }
            if (h != g && able(guests.get(g), guests.get(h))) {
                row[g] = h;
                rowsFrom(guests, row, g + 1, found);
            }
        }
    }

    private static List<int[]> rows(List<Guest> guests) {
        List<int[]> found = new ArrayList<>();
        rowsFrom(guests, new int[guests.size()], 0, found);
        return found;
    }

    int house() {
        int before = now.guests.size();
        now = new State();
        return before;
    }

    int guest(int kind, int want, int can) {
        if (!within(kind, 0, 5) || !within(want, 0, 7) || !within(can, 0, 255)) {
            return bad(-2);
        }
        if (now.guests.size() == 7) {
            return full();
        }
        Guest g = new Guest();
        g.kind = kind;
        g.want = want;
        g.can = can;
        now.guests.add(g);
        now.past.clear();
        return now.guests.size() - 1;
    }

    int duty(int g, int h) {
        if (!there(g) || !(h == -1 || there(h)) || g == h) {
            return bad(-10);
        }
        remember();
        int before = now.guests.get(g).duty;
        now.guests.get(g).duty = h;
        return before;
    }

    int type(int c) {
        if (!within(c, 0, 127)) {
            return bad(-2);
        }
        if (text.length() == 150) {
            return full();
        }
        text += (char) c;
        return text.length();
    }

    int clear() {
        int before = text.length();
        text = "";
        return before;
    }

    /** The tokens as {place, what}: what is a word, figures, a sign, or null at the end. */
    private List<Object[]> tokens() {
        List<Object[]> found = new ArrayList<>();
        Matcher m = TOKEN.matcher(text);
        int place = 0;
        while (place < text.length() && m.find(place)) {
            for (int group = 1; group <= 4; group++) {
                if (m.group(group) != null) {
                    found.add(new Object[] {m.start(group), m.group(group)});
                }
            }
            place = m.end();
        }
        found.add(new Object[] {text.length(), null});
        return found;
    }

    private static int number(Object token, int limit) {
        if (!(token instanceof String s) || !s.matches("[0-9]{1,2}")) {
            return -1;
        }
        int n = Integer.parseInt(s);
        return n < limit ? n : -1;
    }

    int read() {
        List<Object[]> tokens = tokens();
        State s = new State();
        int items = 0;
        int i = 0;
        String item = "";
        List<Integer> numbers = new ArrayList<>();
        for (; i < tokens.size(); i++) {
            Object token = tokens.get(i)[1];
            boolean stands;
            if (item.isEmpty()) {
                if (token == null && items > 0) {
                    now = s;
                    return items;
                }
                stands = items == 0 ? "house".equals(token)
                    : "guest".equals(token) && s.guests.size() < 7 || "duty".equals(token);
                item = stands ? (String) token : "";
                numbers.clear();
            } else if (";".equals(token)) {
                stands = numbers.size() >= (item.equals("house") ? 0 : 2);
                if (stands) {
                    put(s, item, numbers);
                    items++;
                    item = "";
                }
            } else {
                int most = item.equals("house") ? 0 : item.equals("duty") ? 2 : 999;
                int limit = item.equals("duty") ? s.guests.size() : numbers.isEmpty() ? 6 : 8;
                int n = number(token, limit);
                stands = numbers.size() < most && n >= 0 && !(item.equals("duty") && numbers.contains(n));
                numbers.add(n);
            }
            if (!stands) {
                break;
            }
        }
        return -10 - (Integer) tokens.get(i)[0];
    }

    private static void put(State s, String item, List<Integer> numbers) {
        if (item.equals("duty")) {
            s.guests.get(numbers.get(0)).duty = numbers.get(1);
        }
        if (item.equals("guest")) {
            Guest g = new Guest();
            g.kind = numbers.get(0);
            g.want = numbers.get(1);
            for (int n : numbers.subList(2, numbers.size())) {
                g.can |= 1 << n;
            }
            s.guests.add(g);
        }
    }

    int hour(int n) {
        if (!within(n, 1, 60)) {
            return bad(-2);
        }
        for (int i = 0; i < n; i++) {
            remember();
            pass(now);
        }
        return now.mood;
    }

    int undo() {
        if (now.past.isEmpty()) {
            return no();
        }
        // A copy: an image may hold the same past.
        State back = now.past.removeLast().copy();
        back.notes = now.notes;
        back.past = now.past;
        now = back;
        return now.hour;
    }

    int of(int g, int what) {
        if (!there(g) || !within(what, 0, 6)) {
            return bad(-10);
        }
        Guest x = now.guests.get(g);
        return new int[] {x.kind, x.want, x.can, x.duty, x.tips, server(now, g), contentOf(now, g)}[what];
    }

    int can(int g, int h) {
        if (!there(g) || !there(h) || g == h) {
            return bad(-2);
        }
        return able(now.guests.get(g), now.guests.get(h)) ? 1 : 0;
    }

    int work(int g, int s) {
        return there(g) && within(s, 0, 7) ? workOf(now.guests.get(g).kind, s) : bad(-2);
    }

    int all(int g) {
        if (g != -1 && !there(g)) {
            return bad(-10);
        }
        List<int[]> rows = rows(now.guests);
        return g == -1 ? rows.size() : rows.isEmpty() ? -1 : rows.get(0)[g];
    }

    int least() {
        int least = -1;
        for (int[] row : rows(now.guests)) {
            int sum = 0;
            for (int g = 0; g < row.length; g++) {
                sum += workOf(now.guests.get(g).kind, now.guests.get(row[g]).want);
            }
            least = least < 0 ? sum : Math.min(least, sum);
        }
        return least;
    }

    int most(int g) {
        if (g != -1 && !there(g)) {
            return bad(-10);
        }
        int most = -1;
        int[] best = null;
        for (int[] row : rows(now.guests)) {
            int sum = 0;
            for (int i = 0; i < row.length; i++) {
                sum += content(now.guests.get(row[i]).kind, now.guests.get(i).kind, now.hour);
            }
            if (sum > most) {
                most = sum;
                best = row;
            }
        }
        return g == -1 || best == null ? most : best[g];
    }

    int lone() {
        int bits = 0;
        for (int h = 0; h < now.guests.size(); h++) {
            boolean servable = false;
            for (Guest g : now.guests) {
                servable |= g != now.guests.get(h) && able(g, now.guests.get(h));
            }
            bits |= servable ? 0 : 1 << h;
        }
        return bits;
    }

    int rings(int g) {
        if (g != -1 && !there(g)) {
            return bad(-10);
        }
        int back = 0;
        for (int i = 0; i < now.guests.size(); i++) {
            int length = 0;
            int h = i;
            do {
                h = now.guests.get(h).duty;
                length++;
            } while (h >= 0 && h != i && length < 100);
            length = h == i ? length : 0;
            if (g == i) {
                return length;
            }
            back += length > 0 ? 1 : 0;
        }
        return back;
    }

    int smallest() {
        for (int size = 2; size <= now.guests.size(); size++) {
            for (int bits = 0; bits < 128; bits++) {
                List<Guest> some = new ArrayList<>();
                for (int g = 0; g < now.guests.size(); g++) {
                    if ((bits & (1 << g)) != 0) {
                        some.add(now.guests.get(g));
                    }
                }
                if (bits >> now.guests.size() == 0 && some.size() == size && !rows(some).isEmpty()) {
                    return bits;
                }
            }
        }
        return -1;
    }

    int swap(int k) {
        if (k < -1) {
            return bad(-10);
        }
        List<Integer> pairs = new ArrayList<>();
        for (int i = 0; i < now.guests.size(); i++) {
            for (int j = i + 1; j < now.guests.size(); j++) {
                int a = server(now, i);
                int b = server(now, j);
                if (a >= 0 && b >= 0 && gains(i, b) && gains(j, a)) {
                    pairs.add(10 * i + j);
                }
            }
        }
        return k == -1 ? pairs.size() : k < pairs.size() ? pairs.get(k) : -5;
    }

    private boolean gains(int h, int g) {
        Guest x = now.guests.get(h);
        Guest y = now.guests.get(g);
        return h != g && able(y, x) && content(x.kind, y.kind, now.hour) > contentOf(now, h);
    }

    int takeIn(int can) {
        if (!within(can, 0, 255)) {
            return bad(-2);
        }
        if (now.guests.size() == 7) {
            return no();
        }
        int bits = 0;
        for (int w = 0; w < 8; w++) {
            List<Guest> more = new ArrayList<>(now.guests);
            Guest g = new Guest();
            g.want = w;
            g.can = can;
            more.add(g);
            bits |= rows(more).isEmpty() ? 0 : 1 << w;
        }
        return bits;
    }

    int note(int g, int q, int s, int hour, int v) {
        if (!there(g) || !within(q, 0, 5) || !within(s, 0, 7) || !within(hour, 0, 99) || !within(v, 0, 30)) {
            return bad(-2);
        }
        if (now.notes.size() == 6) {
            return full();
        }
        now.notes.add(new int[] {g, q, s, hour, v});
        return now.notes.size();
    }

    int forget() {
        int before = now.notes.size();
        now.notes.clear();
        return before;
    }

    private List<Integer> fitting(int g, int kind) {
        List<Integer> found = new ArrayList<>();
        for (int w = 0; w < 8; w++) {
            boolean fits = true;
            for (int[] n : now.notes) {
                fits &= n[0] != g || n[4] == (n[2] == w ? content(kind, n[1], n[3]) : 0);
            }
            if (fits) {
                found.add(w);
            }
        }
        return found;
    }

    int wants(int g) {
        if (!there(g)) {
            return bad(-2);
        }
        int bits = 0;
        for (int w : fitting(g, now.guests.get(g).kind)) {
            bits += 1 << w;
        }
        return bits;
    }

    int is(int g) {
        if (!there(g)) {
            return bad(-2);
        }
        int bits = 0;
        for (int kind = 0; kind < 6; kind++) {
            bits += fitting(g, kind).isEmpty() ? 0 : 1 << kind;
        }
        return bits;
    }

    int next(int g) {
        if (!there(g)) {
            return bad(-2);
        }
        List<Integer> may = fitting(g, now.guests.get(g).kind);
        if (may.isEmpty()) {
            return -1;
        }
        int found = 0;
        int least = 99;
        for (int s = 7; s >= 0; s--) {
            int wanted = may.contains(s) ? 1 : 0;
            int greater = Math.max(wanted, may.size() - wanted);
            if (greater <= least) {
                least = greater;
                found = s;
            }
        }
        return found;
    }

    int tips(int g, int m) {
        if (!there(g) || !within(m, 0, 60)) {
            return bad(-2);
        }
        State s = now.copy();
        for (int i = 0; i < m; i++) {
            pass(s);
        }
        return s.guests.get(g).tips;
    }

    /** Every choice of guests who do their duty is weighed, of 10 to the number of guests. */
    int moods(int c) {
        if (!within(c, 0, 10)) {
            return bad(-2);
        }
        int n = now.guests.size();
        BigInteger sum = BigInteger.ZERO;
        for (int doing = 0; doing < 1 << n; doing++) {
            State s = now.copy();
            BigInteger weight = BigInteger.ONE;
            for (int g = 0; g < n; g++) {
                boolean does = (doing >> g & 1) != 0;
                weight = weight.multiply(BigInteger.valueOf(does ? c : 10 - c));
                if (!does) {
                    s.guests.get(g).duty = -1;
                }
            }
            for (int h = 0; h < n; h++) {
                sum = server(s, h) >= 0 ? sum.add(weight) : sum;
            }
        }
        BigInteger of = BigInteger.TEN.pow(n);
        BigInteger common = sum.gcd(of);
        above = sum.divide(common);
        below = of.divide(common);
        return 1;
    }

    int hours(int seed, int n) {
        if (!within(seed, 0, 999999) || !within(n, 0, 60)) {
            return bad(-2);
        }
        State s = now.copy();
        s.mood = 0;
        BigInteger x = BigInteger.valueOf(seed);
        for (int i = 0; i < n; i++) {
            for (int g = 0; g < s.guests.size(); g++) {
                x = x.multiply(BigInteger.valueOf(1103515245)).add(BigInteger.valueOf(12345))
                    .mod(BigInteger.valueOf(2147483648L));
                int h = x.divide(BigInteger.valueOf(65536)).mod(BigInteger.valueOf(8)).intValue();
                s.guests.get(g).duty = h == g || h >= s.guests.size() ? -1 : h;
            }
            pass(s);
        }
        return s.mood;
    }

    long part(int what) {
        return what == 0 ? above.longValue() : what == 1 ? below.longValue() : bad(-2);
    }

    int image(int i) {
        if (!within(i, 0, 1)) {
            return bad(-2);
        }
        images[i] = now.copyWithPast();
        return 1;
    }

    int from(int i) {
        if (!within(i, 0, 1)) {
            return bad(-2);
        }
        if (images[i] == null) {
            return no();
        }
        now = images[i].copyWithPast();
        return 1;
    }

    int status(int what) {
        return within(what, 0, 2) ? refused[what] : bad(-1);
    }

    int count(int what) {
        if (!within(what, 0, 6)) {
            return bad(-2);
        }
        int served = 0;
        for (int h = 0; h < now.guests.size(); h++) {
            served += server(now, h) >= 0 ? 1 : 0;
        }
        return new int[] {now.guests.size(), now.hour, now.mood, served, now.notes.size(), now.past.size(),
            text.length()}[what];
    }

    long digest() {
        List<Long> values = new ArrayList<>();
        for (int what = 0; what < 7; what++) {
            values.add((long) count(what));
        }
        for (Guest g : now.guests) {
            values.addAll(List.of((long) g.kind, (long) g.want, (long) g.can, (long) g.duty, (long) g.tips));
        }
        for (int[] n : now.notes) {
            for (int v : n) {
                values.add((long) v);
            }
        }
        values.add(above.longValue());
        values.add(below.longValue());
        long h = 1097;
        for (long v : values) {
            h = 31 * h + v;
        }
        return h;
    }
}
