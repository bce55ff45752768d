import java.util.Random;

/** All promises at once: long runs of calls, drawn by fixed seeds, against the model; behind each the digest and STATUS. */
public final class ModelTest {
    private static final int RUNS = 250, CALLS = 512, TEXTS = 6000;
    private static final Check check = new Check("ModelTest");
    private static final String[] PIECES = {"house", "guest", "duty", ";", ";", ";", " ", " ", "0", "1", "2", "3", "5",
        "6", "7", "8", "10", "01", "007", "a", "-", "house;", "guest 0 1 0;", "guest 1 0 1 0 7;", "guest 5 6 7;",
        "duty 0 1;", "duty 1 0;", "duty 2 3;", "Z"};

    private final Random random;
    private final GuestStaff x = new GuestStaff();
    private final Model y = new Model();
    private final String run;

    private ModelTest(long seed) {
        random = new Random(seed);
        run = "run " + seed + ": ";
    }

    public static void main(String[] args) {
        for (int seed = 0; seed < RUNS; seed++) {
            ModelTest test = new ModelTest(seed);
            for (int i = 0; i < CALLS; i++) {
                test.call(i);
            }
        }
        for (int seed = 0; seed < TEXTS; seed++) {
            new ModelTest(RUNS + seed).text();
        }
        check.finish();
    }

    private int below(int n) {
        return random.nextInt(n);
    }

    /** Mostly first .. last; now and then one beside them, or far away. */
    private int about(int first, int last) {
        switch (below(24)) {
            case 0: return first - 1;
            case 1: return last + 1;
            case 2: return below(8) == 0 ? random.nextInt() : first;
            default: return first + below(last - first + 1);
        }
    }

    private int anyGuest() {
        int n = x.count(0);
        y.count(0);
        return n == 0 ? about(0, 1) : about(0, n - 1);
    }

    private void due(String call, long got, long want) {
        check.due(run + call, got, want);
    }

    private void call(int i) {
        int g = anyGuest();
        int h = anyGuest();
        int a = about(0, 7);
        switch (below(26)) {
            case 0 -> guest();
            case 1, 2, 3, 4, 5 -> due("duty " + g + " " + h, x.duty(g, h), y.duty(g, h));
            case 6, 7 -> { int n = below(4) > 0 ? 1 + below(6) : about(1, 60); due("hour " + n, x.hour(n), y.hour(n)); }
            case 8 -> due("undo", x.undo(), y.undo());
            case 9 -> { int w = about(0, 6); due("of " + g + " " + w, x.of(g, w), y.of(g, w)); }
            case 10 -> due("can " + g + " " + h, x.can(g, h), y.can(g, h));
            case 11 -> due("work " + g + " " + a, x.work(g, a), y.work(g, a));
            case 12 -> { due("all " + g, x.all(g), y.all(g)); due("all", x.all(-1), y.all(-1)); }
            case 13 -> { due("least", x.least(), y.least()); due("most", x.most(-1), y.most(-1)); }
            case 14 -> due("most " + g, x.most(g), y.most(g));
            case 15 -> { due("lone", x.lone(), y.lone()); due("smallest", x.smallest(), y.smallest()); }
            case 16 -> { due("rings " + g, x.rings(g), y.rings(g)); due("rings", x.rings(-1), y.rings(-1)); }
            case 17 -> { int k = about(-1, 1); due("swap " + k, x.swap(k), y.swap(k)); }
            case 18 -> { int c = about(0, 255); due("takeIn " + c, x.takeIn(c), y.takeIn(c)); }
            case 19 -> note(g);
            case 20 -> wants(g);
            case 21 -> { int m = about(0, 60); due("tips " + g + " " + m, x.tips(g, m), y.tips(g, m)); }
            case 22 -> moods();
            case 23 -> { int s = about(0, 999999), n = about(0, 60); due("hours " + s + " " + n, x.hours(s, n), y.hours(s, n)); }
            case 24 -> kept();
            default -> seldom();
        }
        due("digest behind call " + i, x.digest(), y.digest());
        for (int what = 0; what < 3; what++) {
            due("status " + what + " behind call " + i, x.status(what), y.status(what));
        }
    }

    private void guest() {
        int kind = about(0, 5);
        int want = about(0, 7);
        int can = below(2) == 0 ? 255 : about(0, 255);
        due("guest", x.guest(kind, want, can), y.guest(kind, want, can));
    }

    /** Half of the notes are so for the guest's kind, so that something is left that fits. */
    private void note(int g) {
        int q = about(0, 5);
        int s = about(0, 7);
        int hour = about(0, 99);
        int v = about(0, 30);
        if (below(3) > 0 && g >= 0 && g < x.count(0) && hour >= 0) {
            v = below(2) == 0 ? 0 : Model.content(x.of(g, 0), q, hour);
            y.of(g, 0);
        }
        due("note", x.note(g, q, s, hour, v), y.note(g, q, s, hour, v));
    }

    private void wants(int g) {
        due("wants " + g, x.wants(g), y.wants(g));
        due("is " + g, x.is(g), y.is(g));
        due("next " + g, x.next(g), y.next(g));
        if (below(4) == 0) {
            due("forget", x.forget(), y.forget());
        }
    }

    private void moods() {
        int c = about(0, 10);
        int what = about(0, 1);
        due("moods " + c, x.moods(c), y.moods(c));
        due("part " + what, x.part(what), y.part(what));
    }

    private void kept() {
        int i = about(0, 1);
        int what = about(0, 6);
        if (below(2) == 0) {
            due("image " + i, x.image(i), y.image(i));
        } else {
            due("from " + i, x.from(i), y.from(i));
        }
        due("count " + what, x.count(what), y.count(what));
        due("status " + what, x.status(what), y.status(what));
    }

    private void seldom() {
        switch (below(8)) {
            case 0 -> due("house", x.house(), y.house());
            case 1 -> due("clear", x.clear(), y.clear());
            case 2 -> write("house;guest 1 0 0 1;guest 0 1 0 1;guest 4 0 1 2;guest 5 2 0;duty 0 1;duty 1 0;");
            default -> { int c = about(0, 127); due("type " + c, x.type(c), y.type(c)); }
        }
        due("read", x.read(), y.read());
    }

    private void write(String text) {
        due("clear", x.clear(), y.clear());
        for (int i = 0; i < text.length(); i++) {
            due("type", x.type(text.charAt(i)), y.type(text.charAt(i)));
        }
    }

    private void text() {
        StringBuilder text = new StringBuilder(below(10) == 0 ? "" : "house;");
        if (below(2) == 0) {
            text.append("guest 0 0 1;guest 1 1 0;");
        }
        for (int left = below(9); left > 0; left--) {
            text.append(PIECES[below(PIECES.length)]);
            text.append(below(3) == 0 ? " " : "");
        }
        if (below(3) == 0 && text.length() > 0) {
            text.setCharAt(below(text.length()), (char) below(128));
        }
        write(text.toString());
        due("read of '" + text + "'", x.read(), y.read());
        due("digest behind '" + text + "'", x.digest(), y.digest());
    }
}
