/** Promises 29 to 34: part, image, from, status, count, digest; and the constants. */
public final class KeptTest {
    private static final Check check = new Check("KeptTest");

    public static void main(String[] args) {
        constants();
        part();
        images();
        imagesKeepWhatMayBeUndone();
        imagesLeaveOut();
        status();
        count();
        digest();
        check.finish();
    }

    private static void constants() {
        check.due("NONE", GuestStaff.NONE, -1);
        check.due("BAD", GuestStaff.BAD, -2);
        check.due("NO", GuestStaff.NO, -3);
        check.due("FULL", GuestStaff.FULL, -4);
    }

    private static void part() {
        GuestStaff x = Check.houseOf("house;guest 0 0 0;guest 0 0 0;duty 0 1;");
        check.due("part(0) at first", x.part(0), 0);
        check.due("part(1) at first", x.part(1), 1);
        x.moods(4);
        check.due("part(0)", x.part(0), 2);
        check.due("part(1)", x.part(1), 5);
        int[] wrong = {-1, 2, Integer.MIN_VALUE, Integer.MAX_VALUE};
        long before = x.digest();
        for (int what : wrong) {
            check.refused("part(" + what + ")", x, before, x.part(what), -2);
        }
        check.status(x, wrong.length, 0, 0);
    }

    private static void images() {
        GuestStaff x = Check.houseOf("house;guest 0 0 0;guest 3 0 0;duty 0 1;");
        long before = x.digest();
        check.refused("from(0) of none", x, before, x.from(0), -3);
        check.refused("from(1) of none", x, before, x.from(1), -3);
        int[] wrong = {-1, 2, Integer.MIN_VALUE, Integer.MAX_VALUE};
        for (int i : wrong) {
            check.refused("image(" + i + ")", x, before, x.image(i), -2);
            check.refused("from(" + i + ")", x, before, x.from(i), -2);
        }
        check.status(x, 2 * wrong.length, 2, 0);
        x.hour(2);
        x.note(1, 2, 3, 4, 5);
        long first = x.digest();
        check.due("image(0)", x.image(0), 1);
        check.due("from(1): the other is not kept", x.from(1), -3);
        x.hour(1);
        x.forget();
        x.note(0, 0, 0, 0, 0);
        x.note(0, 0, 0, 0, 0);
        x.guest(5, 5, 5);
        x.duty(2, 0);
        long second = x.digest();
        check.due("image(1)", x.image(1), 1);
        x.house();
        x.guest(1, 1, 1);
        check.due("from(0)", x.from(0), 1);
        check.due("digest() of the first", x.digest(), first);
        x.hour(5);
        x.duty(1, 0);
        check.due("from(0) once more", x.from(0), 1);
        check.due("digest() of the first", x.digest(), first);
        check.due("from(1)", x.from(1), 1);
        check.due("digest() of the second", x.digest(), second);
        check.due("image(0) again", x.image(0), 1);
        x.house();
        x.from(0);
        check.due("digest(): the newer image", x.digest(), second);
    }

    private static void imagesKeepWhatMayBeUndone() {
        GuestStaff x = Check.houseOf("house;guest 0 0 0;guest 3 0 0;duty 0 1;");
        x.hour(3);
        x.duty(1, 0);
        x.image(0);
        for (int i = 0; i < 4; i++) {
            x.undo();
        }
        check.due("undo()", x.undo(), -3);
        x.hour(30);
        x.from(0);
        check.due("count(5)", x.count(5), 4);
        check.due("undo() of a duty", x.undo(), 3);
        check.due("of(1, 3)", x.of(1, 3), -1);
        check.due("undo()", x.undo(), 2);
        check.due("count(2)", x.count(2), 8);
        check.due("undo()", x.undo(), 1);
        check.due("of(1, 4)", x.of(1, 4), 9);
        check.due("undo()", x.undo(), 0);
        check.due("undo()", x.undo(), -3);
        // What is undone later leaves the image alone.
        x.from(0);
        check.due("count(5)", x.count(5), 4);
        check.due("of(1, 3)", x.of(1, 3), 0);
        // Other duties that are remembered meanwhile have no part in it, whichever slot they fall into.
        for (int shift = 0; shift < 8; shift++) {
            GuestStaff y = Check.houseOf("house;guest 0 0 0;guest 3 0 0;guest 1 0 0;");
            for (int i = 0; i < shift; i++) {
                y.hour(1);
            }
            y.duty(0, 1);
            y.duty(0, 2);
            y.image(1);
            y.duty(0, 1);
            y.hour(60);
            y.from(1);
            check.due("undo()", y.undo(), shift);
            check.due("of(0, 3)", y.of(0, 3), 1);
            check.due("undo()", y.undo(), shift);
            check.due("of(0, 3)", y.of(0, 3), -1);
        }
        // An image is not undone.
        x.house();
        check.due("undo() behind house", x.undo(), -3);
    }

    private static void imagesLeaveOut() {
        GuestStaff x = Check.houseOf("house;guest 0 0 0;guest 3 0 0;duty 0 1;");
        x.image(0);
        x.type('a');
        x.moods(1);
        x.type(-1);
        x.image(1);
        x.from(0);
        check.due("count(6): the text stays", x.count(6), 1);
        check.due("part(0) stays", x.part(0), 1);
        check.due("part(1) stays", x.part(1), 10);
        check.status(x, 1, 0, 0);
        check.due("from(1): images are not in an image", x.from(1), 1);
    }

    private static void status() {
        GuestStaff x = new GuestStaff();
        check.status(x, 0, 0, 0);
        check.due("status(3)", x.status(3), -1);
        check.status(x, 1, 0, 0);
        check.due("status(-1)", x.status(-1), -1);
        check.due("status of the greatest", x.status(Integer.MAX_VALUE), -1);
        check.due("status of the least", x.status(Integer.MIN_VALUE), -1);
        check.status(x, 4, 0, 0);
        x.undo();
        x.from(0);
        check.status(x, 4, 2, 0);
        for (int i = 0; i < 9; i++) {
            x.guest(0, 0, 0);
        }
        check.status(x, 4, 2, 2);
        // Answers that are told otherwise are no refusals.
        x.swap(3);
        x.read();
        x.all(0);
        x.all(-1);
        x.least();
        x.most(0);
        x.next(0);
        x.smallest();
        check.status(x, 4, 2, 2);
    }

    private static void count() {
        GuestStaff x = Check.houseOf("house;guest 0 0 0;guest 3 0 0;guest 1 1;duty 0 1;");
        x.hour(5);
        x.note(0, 0, 0, 0, 0);
        x.note(0, 0, 0, 0, 0);
        x.type('h');
        int[] due = {3, 5, 3 * 3 + 2 * 5, 1, 2, 5, 1};
        for (int what = 0; what < 7; what++) {
            check.due("count(" + what + ")", x.count(what), due[what]);
        }
        int[] wrong = {-1, 7, Integer.MIN_VALUE, Integer.MAX_VALUE};
        long before = x.digest();
        for (int what : wrong) {
            check.refused("count(" + what + ")", x, before, x.count(what), -2);
        }
        check.status(x, wrong.length, 0, 0);
    }

    private static long digestOf(long... values) {
        long h = 1097;
        for (long v : values) {
            h = 31 * h + v;
        }
        return h;
    }

    private static void digest() {
        GuestStaff x = new GuestStaff();
        check.due("digest() of a new object", x.digest(), digestOf(0, 0, 0, 0, 0, 0, 0, 0, 1));
        x = Check.houseOf("house;guest 5 6 0 3;guest 1 3 6;duty 1 0;");
        x.hour(2);
        x.note(1, 2, 3, 4, 5);
        x.note(0, 5, 7, 99, 30);
        x.moods(3);
        x.type(';');
        x.status(7);
        check.due("digest()", x.digest(), digestOf(2, 2, 12, 1, 2, 2, 1, 5, 6, 9, -1, 8, 1, 3, 64, 0, 12,
            1, 2, 3, 4, 5, 0, 5, 7, 99, 30, 3, 10));
    }
}
