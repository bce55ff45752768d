/** Promises 1 to 7: a new object, house, guest, duty, type, clear, read; FaultsTest has the texts that are refused. */
public final class HouseTest {
    private static final Check check = new Check("HouseTest");

    public static void main(String[] args) {
        newObject();
        house();
        nobodyStays();
        guest();
        duty();
        typeAndClear();
        readGood();
        readTakesThePlace();
        check.finish();
    }

    private static void newObject() {
        GuestStaff x = new GuestStaff();
        for (int what = 0; what < 7; what++) {
            check.due("count(" + what + ")", x.count(what), 0);
        }
        check.due("part(0)", x.part(0), 0);
        check.due("part(1)", x.part(1), 1);
        check.status(x, 0, 0, 0);
        check.due("from(0)", x.from(0), -3);
        check.due("from(1)", x.from(1), -3);
        check.due("undo()", x.undo(), -3);
        check.status(x, 0, 3, 0);
        GuestStaff y = new GuestStaff();
        x.guest(1, 2, 3);
        check.due("count(0) of another", y.count(0), 0);
    }

    private static void house() {
        GuestStaff x = Check.houseOf("house;guest 0 1 0 1;guest 2 0 1;duty 0 1;");
        check.due("house() of two", x.house(), 2);
        check.due("count(0)", x.count(0), 0);
        check.due("house() of none", x.house(), 0);

        x = Check.houseOf("house;guest 0 1 0 1;guest 2 0 1;duty 0 1;");
        x.moods(5);
        x.image(1);
        x.guest(9, 0, 0);
        x.hour(3);
        x.note(0, 0, 0, 0, 5);
        x.type('a');
        check.due("house()", x.house(), 2);
        int[] due = {0, 0, 0, 0, 0, 0, 1};
        for (int what = 0; what < 7; what++) {
            check.due("count(" + what + ") behind house", x.count(what), due[what]);
        }
        check.due("undo() behind house", x.undo(), -3);
        check.status(x, 1, 1, 0);
        check.due("part(0) stays", x.part(0), 1);
        check.due("part(1) stays", x.part(1), 2);
        check.due("from(1) stays", x.from(1), 1);
        check.due("count(0) from the image", x.count(0), 2);
        x.house();
        check.due("guest() is the first again", x.guest(3, 7, 0), 0);
        check.due("of(0, 3) at first", x.of(0, 3), -1);
        check.due("of(0, 4) at first", x.of(0, 4), 10);
    }

    /** Those who were there before have no part in a house of fewer. */
    private static void nobodyStays() {
        for (int n = 0; n < 7; n++) {
            GuestStaff x = new GuestStaff();
            for (int g = 0; g < 7; g++) {
                x.guest(2, 0, 255);
            }
            for (int g = 0; g < 7; g++) {
                x.duty(g, g == n ? (n + 1) % 7 : n);
            }
            x.house();
            for (int g = 0; g < n; g++) {
                x.guest(0, 0, 0);
            }
            check.due("lone() of " + n, x.lone(), (1 << n) - 1);
            check.due("count(3) of " + n, x.count(3), 0);
            check.due("hour(3) of " + n, x.hour(3), 0);
            check.due("all(-1) of " + n, x.all(-1), n == 0 ? 1 : 0);
            check.due("smallest() of " + n, x.smallest(), -1);
            check.due("moods(5) of " + n, x.moods(5), 1);
            check.due("part(0) of " + n, x.part(0), 0);
            check.due("hours(1, 60) of " + n, x.hours(1, 60), 0);
        }
    }

    private static void guest() {
        GuestStaff x = new GuestStaff();
        check.due("guest(0, 0, 0)", x.guest(0, 0, 0), 0);
        check.due("guest(5, 7, 255)", x.guest(5, 7, 255), 1);
        check.due("of(1, 0)", x.of(1, 0), 5);
        check.due("of(1, 1)", x.of(1, 1), 7);
        check.due("of(1, 2)", x.of(1, 2), 255);
        check.due("of(1, 3)", x.of(1, 3), -1);
        check.due("of(1, 4)", x.of(1, 4), 10);
        long before = x.digest();
        int[][] wrong = {{-1, 0, 0}, {6, 0, 0}, {0, -1, 0}, {0, 8, 0}, {0, 0, -1}, {0, 0, 256},
            {Integer.MIN_VALUE, 0, 0}, {0, Integer.MAX_VALUE, 0}, {0, 0, Integer.MIN_VALUE}};
        for (int[] w : wrong) {
            check.refused("guest of a wrong number", x, before, x.guest(w[0], w[1], w[2]), -2);
        }
        for (int g = 2; g < 7; g++) {
            check.due("guest", x.guest(1, 1, 1), g);
        }
        before = x.digest();
        check.refused("an 8th guest", x, before, x.guest(0, 0, 0), -4);
        check.refused("BAD ahead of FULL", x, before, x.guest(6, 0, 0), -2);
        check.status(x, 10, 0, 1);

        GuestStaff y = Check.houseOf("house;guest 0 1 0 1;guest 2 0 1;");
        y.duty(0, 1);
        y.hour(2);
        check.due("count(5)", y.count(5), 3);
        check.due("guest", y.guest(0, 0, 0), 2);
        check.due("count(5) behind a guest", y.count(5), 0);
        check.due("count(1) behind a guest", y.count(1), 2);
        check.due("undo() behind a guest", y.undo(), -3);
    }

    private static void duty() {
        GuestStaff x = Check.houseOf("house;guest 0 1 0 1;guest 2 0 1;guest 1 5;");
        check.due("duty(0, 1)", x.duty(0, 1), -1);
        check.due("duty(0, 2)", x.duty(0, 2), 1);
        check.due("duty(0, 2) again", x.duty(0, 2), 2);
        check.due("duty(0, -1)", x.duty(0, -1), 2);
        check.due("of(0, 3)", x.of(0, 3), -1);
        check.due("duty(2, 0)", x.duty(2, 0), -1);
        check.due("of(2, 3), what one can not do too", x.of(2, 3), 0);
        check.due("count(5)", x.count(5), 5);
        long before = x.digest();
        int[][] wrong = {{0, 0}, {2, 2}, {-1, 0}, {-1, -1}, {3, 0}, {0, 3}, {0, -2}, {3, -1},
            {Integer.MAX_VALUE, 0}, {0, Integer.MIN_VALUE}};
        for (int[] w : wrong) {
            check.refused("a wrong duty", x, before, x.duty(w[0], w[1]), -10);
        }
        check.status(x, wrong.length, 0, 0);
    }

    private static void typeAndClear() {
        GuestStaff x = new GuestStaff();
        check.due("clear() of none", x.clear(), 0);
        check.due("type(0)", x.type(0), 1);
        check.due("type(127)", x.type(127), 2);
        check.due("type(-1)", x.type(-1), -2);
        check.due("type(128)", x.type(128), -2);
        check.due("count(6)", x.count(6), 2);
        for (int i = 3; i <= 150; i++) {
            check.due("type", x.type(';'), i);
        }
        check.due("type, the 151st", x.type(';'), -4);
        check.due("BAD ahead of FULL", x.type(-1), -2);
        check.due("count(6)", x.count(6), 150);
        check.status(x, 3, 0, 1);
        check.due("clear()", x.clear(), 150);
        check.due("count(6)", x.count(6), 0);
        check.due("type behind clear", x.type('h'), 1);
    }

    private static void readGood() {
        GuestStaff x = new GuestStaff();
        check.due("house alone", Check.read(x, "house;"), 1);
        check.due("blanks about", Check.read(x, "  house  ;   "), 1);
        check.due("a guest that can do nothing", Check.read(x, "house;guest 5 7;"), 2);
        check.due("of(0, 0)", x.of(0, 0), 5);
        check.due("of(0, 1)", x.of(0, 1), 7);
        check.due("of(0, 2)", x.of(0, 2), 0);
        check.due("two figures, a service twice", Check.read(x, "house;guest 05 00 7 07 2 1;"), 2);
        check.due("of(0, 0)", x.of(0, 0), 5);
        check.due("of(0, 2)", x.of(0, 2), 128 + 4 + 2);
        check.due("no blanks between unlike tokens", Check.read(x, "house;guest1 2 3;guest2 3;duty0 1;"), 4);
        check.due("of(0, 0)", x.of(0, 0), 1);
        check.due("of(0, 3)", x.of(0, 3), 1);
        check.due("a duty told again", Check.read(x, "house;guest 0 0;guest 0 0;guest 0 0;duty 0 1;duty 0 2;"), 6);
        check.due("of(0, 3)", x.of(0, 3), 2);
        check.due("seven guests",
            Check.read(x, "house;guest 0 0;guest 1 1;guest 2 2;guest 3 3;guest 4 4;guest 5 5;guest 0 6 7;duty 6 0;"), 9);
        check.due("count(0)", x.count(0), 7);
        check.due("of(6, 3)", x.of(6, 3), 0);
        StringBuilder longest = new StringBuilder("house;guest 0 0");
        while (longest.length() < 149) {
            longest.append(" 7".charAt(longest.length() % 2));
        }
        check.due("150 bytes", Check.read(x, longest.append(';').toString()), 2);
        check.due("count(6)", x.count(6), 150);
        check.due("of(0, 2)", x.of(0, 2), 128);
    }

    private static void readTakesThePlace() {
        GuestStaff x = Check.houseOf("house;guest 0 1 0 1;guest 2 0 1;duty 0 1;duty 1 0;");
        x.moods(5);
        x.image(0);
        x.hour(3);
        x.note(0, 0, 0, 0, 5);
        x.type(-1);
        check.due("read", Check.read(x, "house;guest 3 1 0 1;guest 2 0 1;duty 0 1;"), 4);
        int[] due = {2, 0, 0, 1, 0, 0, 41};
        for (int what = 0; what < 7; what++) {
            check.due("count(" + what + ") behind read", x.count(what), due[what]);
        }
        check.due("of(0, 4)", x.of(0, 4), 10);
        check.due("of(1, 4)", x.of(1, 4), 10);
        check.due("of(1, 3)", x.of(1, 3), -1);
        check.due("part(0) stays", x.part(0), 1);
        check.due("part(1) stays", x.part(1), 1);
        check.status(x, 1, 0, 0);
        check.due("undo() behind read", x.undo(), -3);
        check.due("read the same text again", x.read(), 4);
        check.due("from(0)", x.from(0), 1);
        check.due("of(1, 3) of the image", x.of(1, 3), 0);
        check.due("count(6) stays", x.count(6), 41);
    }
}
