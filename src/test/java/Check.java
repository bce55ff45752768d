/** Counts the answers of a test, and tells those that are not the ones that are due. */
final class Check {
    private final String test;
    private int asked = 0;
    private int wrong = 0;

    Check(String test) {
        this.test = test;
    }

    void due(String call, long got, long want) {
        asked++;
        if (got != want) {
            wrong++;
            System.out.println(test + ": " + call + " answered " + got + ", due is " + want);
        }
    }

    void holds(String what, boolean is) {
        asked++;
        if (!is) {
            wrong++;
            System.out.println(test + ": it is not so that " + what);
        }
    }

    /** What a refused call must leave as it was: all that the object tells of itself but STATUS. */
    void refused(String call, GuestStaff x, long before, long got, long want) {
        due(call, got, want);
        due("digest() behind " + call, x.digest(), before);
    }

    void status(GuestStaff x, int bad, int no, int full) {
        due("status(0)", x.status(0), bad);
        due("status(1)", x.status(1), no);
        due("status(2)", x.status(2), full);
    }

    void finish() {
        System.out.println(test + ": " + asked + " answers, " + wrong + " wrong");
        if (wrong != 0 || asked == 0) {
            System.exit(1);
        }
    }

    void fraction(String call, GuestStaff x, long above, long below) {
        due("part(0) behind " + call, x.part(0), above);
        due("part(1) behind " + call, x.part(1), below);
    }

    void counts(String call, GuestStaff x, int... due) {
        for (int what = 0; what < due.length; what++) {
            due("count(" + what + ") behind " + call, x.count(what), due[what]);
        }
    }

    static void write(GuestStaff x, String text) {
        x.clear();
        for (int i = 0; i < text.length(); i++) {
            x.type(text.charAt(i));
        }
    }

    static int read(GuestStaff x, String text) {
        write(x, text);
        return x.read();
    }

    /** A new object with the house that the text tells, and no text left. */
    static GuestStaff houseOf(String text) {
        GuestStaff x = new GuestStaff();
        if (text.length() > 150 || read(x, text) < 1) {
            throw new IllegalArgumentException("no house is told by '" + text + "'");
        }
        x.clear();
        return x;
    }
}
