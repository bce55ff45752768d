/** Promises 8 to 12: hour, undo, of, can, work; and the KINDS. */
public final class HoursTest {
    private static final Check check = new Check("HoursTest");

    public static void main(String[] args) {
        content();
        work();
        served();
        hourAndTips();
        tipsInOrder();
        wrongHours();
        undo();
        undoEight();
        of();
        can();
        check.finish();
    }

    /** How content a guest of a kind is that one of kind q serves in an hour. */
    private static int contentOf(int kind, int q, int hour) {
        GuestStaff x = new GuestStaff();
        x.guest(kind, 0, 0);
        x.guest(q, 0, 1);
        for (int left = hour; left > 0; left -= 60) {
            x.hour(Math.min(left, 60));
        }
        x.duty(1, 0);
        return x.of(0, 6);
    }

    private static void content() {
        // By kinds; then by q 0 .. 5; hours 0 .. 3.
        int[][] hours = {{5, 5, 5, 5}, {5, 5, 5, 5}, {10, 10, 10, 10}, {3, 5, 3, 5}, {0, 5, 5, 5}, {6, 6, 6, 6}};
        for (int kind = 0; kind < 6; kind++) {
            for (int q = 0; q < 6; q++) {
                for (int hour = 0; hour < 12; hour++) {
                    int due = hours[kind][hour % 4];
                    if (q == 1 && (kind == 1 || kind == 4 && hour % 4 != 0)) {
                        due += 3;
                    }
                    check.due("content of " + kind + " by " + q + " in " + hour, contentOf(kind, q, hour), due);
                }
            }
        }
        check.due("content of LATE in 100", contentOf(4, 1, 100), 0);
        check.due("content of SHOUTER in 101", contentOf(3, 1, 101), 5);
    }

    private static void work() {
        GuestStaff x = new GuestStaff();
        int[][] due = {{2, 2, 2, 2, 2, 2, 2, 2}, {1, 1, 1, 1, 1, 1, 1, 1}, {2, 3, 4, 5, 6, 7, 8, 9},
            {2, 2, 2, 2, 2, 2, 2, 2}, {1, 1, 1, 1, 1, 1, 1, 1}, {1, 1, 2, 2, 3, 3, 4, 4}};
        for (int kind = 0; kind < 6; kind++) {
            check.due("work(" + kind + ", 0) too early", x.work(kind, 0), -2);
            x.guest(kind, 0, 0);
            for (int s = 0; s < 8; s++) {
                check.due("work(" + kind + ", " + s + ")", x.work(kind, s), due[kind][s]);
            }
        }
        check.due("work(-1, 0)", x.work(-1, 0), -2);
        check.due("work(0, -1)", x.work(0, -1), -2);
        check.due("work(0, 8)", x.work(0, 8), -2);
        check.status(x, 9, 0, 0);
    }

    private static void served() {
        // Guest 3 wants 2: guest 0 does for it, but can not; 1 and 2 can.
        GuestStaff x = Check.houseOf("house;guest 0 1 1;guest 1 1 2;guest 2 1 2;guest 1 2;duty 0 3;");
        check.due("of(3, 5), one that can not", x.of(3, 5), -1);
        check.due("of(3, 6)", x.of(3, 6), 0);
        check.due("count(3)", x.count(3), 0);
        x.duty(2, 3);
        check.due("of(3, 5)", x.of(3, 5), 2);
        check.due("of(3, 6)", x.of(3, 6), 5);
        x.duty(1, 3);
        check.due("of(3, 5), the first counts", x.of(3, 5), 1);
        check.due("of(3, 6)", x.of(3, 6), 8);
        check.due("count(3)", x.count(3), 1);
        x.duty(0, 1);
        check.due("count(3), 0 does for 1", x.count(3), 2);
        check.due("of(1, 5)", x.of(1, 5), 0);
    }

    private static void hourAndTips() {
        // 1 serves 0, a SHOUTER; nobody serves 1.
        GuestStaff x = Check.houseOf("house;guest 3 0;guest 0 1 0;duty 1 0;");
        check.due("hour(1)", x.hour(1), 3);
        check.due("count(1)", x.count(1), 1);
        check.due("of(0, 4)", x.of(0, 4), 9);
        check.due("of(1, 4)", x.of(1, 4), 11);
        check.due("of(0, 6) in an odd hour", x.of(0, 6), 5);
        check.due("hour(2)", x.hour(2), 11);
        check.due("hour(60)", x.hour(60), 11 + 30 * 5 + 30 * 3);
        check.due("count(1)", x.count(1), 63);
        check.due("count(2)", x.count(2), 251);
        check.due("of(0, 4), none is left", x.of(0, 4), 0);
        check.due("of(1, 4)", x.of(1, 4), 20);
        check.due("count(3), served without a tip", x.count(3), 1);
        GuestStaff empty = new GuestStaff();
        check.due("hour(60) of no guests", empty.hour(60), 0);
        check.due("count(1)", empty.count(1), 60);
    }

    private static void tipsInOrder() {
        // 0 is served by 1, and 1 by 2: a tip that 1 has just been given goes on in the same hour.
        GuestStaff x = Check.houseOf("house;guest 0 0;guest 0 1 0;guest 0 2 1;duty 1 0;duty 2 1;");
        x.hour(10);
        check.due("of(0, 4)", x.of(0, 4), 0);
        check.due("of(1, 4)", x.of(1, 4), 10);
        check.due("of(2, 4)", x.of(2, 4), 20);
        x.hour(3);
        check.due("of(1, 4)", x.of(1, 4), 7);
        check.due("of(2, 4)", x.of(2, 4), 23);
        // 2 has served 0 until that had no tip left. 0, asked first, gives none, so what 1 then gives it stays.
        GuestStaff y = Check.houseOf("house;guest 0 0 1;guest 0 1;guest 0 2 0;duty 2 0;");
        y.hour(10);
        y.duty(0, 1);
        check.due("of(0, 4) before", y.of(0, 4), 0);
        y.hour(1);
        check.due("of(0, 4): it was asked ahead of the tip", y.of(0, 4), 1);
        check.due("of(1, 4)", y.of(1, 4), 9);
        check.due("of(2, 4)", y.of(2, 4), 20);
    }

    private static void wrongHours() {
        GuestStaff x = Check.houseOf("house;guest 3 0;guest 0 1 0;duty 1 0;");
        x.hour(1);
        long before = x.digest();
        int[] wrong = {0, -1, 61, Integer.MAX_VALUE, Integer.MIN_VALUE};
        for (int n : wrong) {
            check.refused("hour(" + n + ")", x, before, x.hour(n), -2);
        }
        check.status(x, wrong.length, 0, 0);
    }

    private static void undo() {
        GuestStaff x = Check.houseOf("house;guest 3 0;guest 0 1 0;duty 1 0;");
        check.due("undo() of a house just read", x.undo(), -3);
        x.hour(2);
        x.duty(1, -1);
        x.hour(1);
        x.note(0, 0, 0, 0, 0);
        check.due("count(5)", x.count(5), 4);
        check.due("undo() of an hour", x.undo(), 2);
        check.due("of(1, 3)", x.of(1, 3), -1);
        check.due("undo() of a duty", x.undo(), 2);
        check.due("of(1, 3)", x.of(1, 3), 0);
        check.due("count(2)", x.count(2), 8);
        check.due("of(0, 4)", x.of(0, 4), 8);
        check.due("undo() of an hour", x.undo(), 1);
        check.due("count(1)", x.count(1), 1);
        check.due("count(2)", x.count(2), 3);
        check.due("of(0, 4)", x.of(0, 4), 9);
        check.due("of(1, 4)", x.of(1, 4), 11);
        check.due("undo() of an hour", x.undo(), 0);
        check.due("count(2)", x.count(2), 0);
        check.due("of(0, 4)", x.of(0, 4), 10);
        long before = x.digest();
        check.refused("undo()", x, before, x.undo(), -3);
        check.due("count(4): a note stays", x.count(4), 1);
        check.status(x, 0, 2, 0);
        x.hour(1);
        x.duty(9, 9);
        check.due("count(5): a refused duty is none", x.count(5), 1);
    }

    private static void undoEight() {
        GuestStaff x = Check.houseOf("house;guest 3 0;guest 0 1 0;duty 1 0;");
        x.hour(20);
        check.due("count(5)", x.count(5), 8);
        for (int hour = 19; hour >= 12; hour--) {
            check.due("undo()", x.undo(), hour);
        }
        check.due("undo(), the 9th", x.undo(), -3);
        check.due("count(1)", x.count(1), 12);
        check.due("count(2)", x.count(2), 6 * 8);
        x.hour(3);
        check.due("count(5)", x.count(5), 3);
        for (int i = 0; i < 7; i++) {
            x.duty(0, i % 2 == 0 ? 1 : -1);
        }
        check.due("count(5)", x.count(5), 8);
        int[] due = {-1, 1, -1, 1, -1, 1, -1};
        for (int i = 0; i < 7; i++) {
            check.due("undo() of a duty", x.undo(), 15);
            check.due("of(0, 3)", x.of(0, 3), due[i]);
        }
        check.due("undo() of an hour", x.undo(), 14);
        check.due("undo(), the 9th", x.undo(), -3);
    }

    private static void of() {
        GuestStaff x = Check.houseOf("house;guest 2 6 0 3;guest 1 3 6;duty 0 1;duty 1 0;");
        x.hour(1);
        int[][] due = {{2, 6, 9, 1, 10, 1, 10}, {1, 3, 64, 0, 10, 0, 5}};
        for (int g = 0; g < 2; g++) {
            for (int what = 0; what < 7; what++) {
                check.due("of(" + g + ", " + what + ")", x.of(g, what), due[g][what]);
            }
        }
        long before = x.digest();
        int[][] wrong = {{-1, 0}, {2, 0}, {7, 0}, {0, -1}, {0, 7}, {-1, 7}, {Integer.MAX_VALUE, 0}, {0, Integer.MIN_VALUE}};
        for (int[] w : wrong) {
            check.refused("of", x, before, x.of(w[0], w[1]), -10);
        }
        check.status(x, wrong.length, 0, 0);
    }

    private static void can() {
        GuestStaff x = Check.houseOf("house;guest 2 7 0 3;guest 1 3 6;guest 0 0 7;");
        int[][] due = {{-2, 1, 1}, {0, -2, 0}, {1, 0, -2}};
        for (int g = 0; g < 3; g++) {
            for (int h = 0; h < 3; h++) {
                check.due("can(" + g + ", " + h + ")", x.can(g, h), due[g][h]);
            }
        }
        check.due("can(-1, 0)", x.can(-1, 0), -2);
        check.due("can(0, -1)", x.can(0, -1), -2);
        check.due("can(3, 0)", x.can(3, 0), -2);
        check.due("can(0, 3)", x.can(0, 3), -2);
        check.status(x, 7, 0, 0);
    }
}
