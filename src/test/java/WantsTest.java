/** Promises 21 to 28: note, forget, wants, is, next, tips, moods, hours. */
public final class WantsTest {
    private static final Check check = new Check("WantsTest");

    public static void main(String[] args) {
        noteAndForget();
        wrongNotes();
        wants();
        is();
        next();
        tips();
        moods();
        moodsWrong();
        hours();
        hoursWrong();
        check.finish();
    }

    private static void noteAndForget() {
        GuestStaff x = Check.houseOf("house;guest 0 0;guest 1 1;");
        check.due("forget() of none", x.forget(), 0);
        check.due("note", x.note(0, 0, 0, 0, 0), 1);
        check.due("note", x.note(1, 5, 7, 99, 30), 2);
        for (int i = 3; i <= 6; i++) {
            check.due("note", x.note(0, 0, 0, 0, 0), i);
        }
        long before = x.digest();
        check.refused("a 7th note", x, before, x.note(0, 0, 0, 0, 0), -4);
        check.refused("BAD ahead of FULL", x, before, x.note(2, 0, 0, 0, 0), -2);
        check.status(x, 1, 0, 1);
        check.due("count(4)", x.count(4), 6);
        check.due("forget()", x.forget(), 6);
        check.due("count(4)", x.count(4), 0);
        check.due("wants(1) behind forget", x.wants(1), 255);
        check.due("note behind forget", x.note(0, 0, 0, 0, 0), 1);
    }

    private static void wrongNotes() {
        GuestStaff x = Check.houseOf("house;guest 0 0;guest 1 1;");
        x.note(0, 0, 0, 0, 0);
        int[][] wrong = {{-1, 0, 0, 0, 0}, {2, 0, 0, 0, 0}, {0, -1, 0, 0, 0}, {0, 6, 0, 0, 0}, {0, 0, -1, 0, 0},
            {0, 0, 8, 0, 0}, {0, 0, 0, -1, 0}, {0, 0, 0, 100, 0}, {0, 0, 0, 0, -1}, {0, 0, 0, 0, 31}};
        long before = x.digest();
        for (int[] w : wrong) {
            check.refused("note", x, before, x.note(w[0], w[1], w[2], w[3], w[4]), -2);
        }
        int[] nobody = {-1, 2, 7, Integer.MIN_VALUE, Integer.MAX_VALUE};
        for (int g : nobody) {
            check.refused("wants(" + g + ")", x, before, x.wants(g), -2);
            check.refused("is(" + g + ")", x, before, x.is(g), -2);
            check.refused("next(" + g + ")", x, before, x.next(g), -2);
        }
        check.status(x, wrong.length + 3 * nobody.length, 0, 0);
    }

    private static void wants() {
        // A quiet one that wants 1, which it need not tell.
        GuestStaff x = Check.houseOf("house;guest 1 1;guest 0 2;");
        check.due("wants(0) without notes", x.wants(0), 255);
        x.note(0, 0, 3, 5, 0);
        check.due("wants(0)", x.wants(0), 255 - 8);
        x.note(0, 1, 0, 6, 0);
        check.due("wants(0)", x.wants(0), 255 - 9);
        check.due("wants(1): the notes are not of it", x.wants(1), 255);
        x.note(1, 1, 5, 0, 5);
        check.due("wants(1)", x.wants(1), 32);
        check.due("wants(0)", x.wants(0), 255 - 9);
        x.note(0, 1, 7, 6, 8);
        check.due("wants(0): what is told, not what is", x.wants(0), 128);
        x.note(0, 0, 7, 6, 8);
        check.due("wants(0): 5 by a plain one", x.wants(0), 0);
        // A LATE one by hours.
        x = Check.houseOf("house;guest 4 1;");
        x.note(0, 1, 2, 8, 0);
        check.due("wants(0): nothing is seen in hour 8", x.wants(0), 255);
        x.note(0, 1, 2, 8, 8);
        check.due("wants(0): never 8 in hour 8", x.wants(0), 0);
        // A SHOUTER by hours, whatever the hour is now.
        x = Check.houseOf("house;guest 3 1;");
        x.hour(1);
        x.note(0, 1, 2, 98, 3);
        check.due("wants(0)", x.wants(0), 4);
        x.note(0, 1, 2, 99, 5);
        check.due("wants(0)", x.wants(0), 4);
        x.note(0, 1, 2, 99, 3);
        check.due("wants(0)", x.wants(0), 0);
    }

    private static void is() {
        GuestStaff x = Check.houseOf("house;guest 0 1;guest 0 2;");
        check.due("is(0) without notes", x.is(0), 63);
        x.note(0, 1, 4, 2, 8);
        check.due("is(0): 8 by a quiet one", x.is(0), 2 + 16);
        check.due("wants(0): it is plain", x.wants(0), 0);
        x.note(0, 1, 4, 4, 8);
        check.due("is(0): no late one", x.is(0), 2);
        x.forget();
        x.note(0, 0, 4, 2, 5);
        check.due("is(0): 5 in an even hour", x.is(0), 1 + 2 + 16);
        x.forget();
        x.note(0, 0, 4, 1, 5);
        check.due("is(0): 5 in an odd hour", x.is(0), 1 + 2 + 8 + 16);
        x.forget();
        x.note(0, 1, 4, 1, 10);
        check.due("is(0): 10", x.is(0), 4);
        x.forget();
        x.note(0, 1, 4, 1, 6);
        check.due("is(0): 6", x.is(0), 32);
        x.note(0, 1, 3, 1, 6);
        check.due("is(0): two wants", x.is(0), 0);
        check.due("is(1)", x.is(1), 63);
        x.forget();
        x.note(0, 0, 0, 0, 30);
        check.due("is(0): 30", x.is(0), 0);
    }

    private static void next() {
        GuestStaff x = Check.houseOf("house;guest 0 1;");
        check.due("next(0) of all", x.next(0), 0);
        x.note(0, 0, 0, 0, 0);
        check.due("next(0): not 0", x.next(0), 1);
        x.note(0, 0, 1, 0, 0);
        x.note(0, 0, 2, 0, 0);
        check.due("next(0): not 0 1 2", x.next(0), 3);
        x.note(0, 0, 4, 0, 0);
        x.note(0, 0, 5, 0, 0);
        x.note(0, 0, 6, 0, 0);
        check.due("wants(0)", x.wants(0), 128 + 8);
        check.due("next(0): 3 or 7", x.next(0), 3);
        x.forget();
        x.note(0, 0, 6, 0, 5);
        check.due("next(0): 6 alone, all are alike", x.next(0), 0);
        x.note(0, 0, 6, 0, 0);
        check.due("next(0): nothing fits", x.next(0), -1);
        check.status(x, 0, 0, 0);
    }

    private static void tips() {
        GuestStaff x = Check.houseOf("house;guest 0 0;guest 0 1 0;guest 0 2 1;duty 1 0;duty 2 1;");
        x.hour(3);
        long before = x.digest();
        int[][] due = {{7, 10, 13}, {6, 10, 14}, {0, 10, 20}, {0, 9, 21}, {0, 0, 30}, {0, 0, 30}};
        int[] hours = {0, 1, 7, 8, 17, 60};
        for (int i = 0; i < hours.length; i++) {
            for (int g = 0; g < 3; g++) {
                check.due("tips(" + g + ", " + hours[i] + ")", x.tips(g, hours[i]), due[i][g]);
            }
        }
        int[][] wrong = {{-1, 0}, {3, 0}, {0, -1}, {0, 61}, {0, Integer.MIN_VALUE}, {Integer.MAX_VALUE, 0}};
        for (int[] w : wrong) {
            check.refused("tips", x, before, x.tips(w[0], w[1]), -2);
        }
        check.status(x, wrong.length, 0, 0);
    }

    private static void fraction(GuestStaff x, int c, long above, long below) {
        check.due("moods(" + c + ")", x.moods(c), 1);
        check.due("part(0)", x.part(0), above);
        check.due("part(1)", x.part(1), below);
    }

    private static void moods() {
        // Six do for 0; the last of them can not.
        GuestStaff x = Check.houseOf("house;guest 0 0;guest 0 1 0;guest 0 1 0;guest 0 1 0;guest 0 1 0;guest 0 1 0;guest 0 1;"
            + "duty 1 0;duty 2 0;duty 3 0;");
        fraction(x, 0, 0, 1);
        fraction(x, 10, 1, 1);
        fraction(x, 5, 7, 8);
        fraction(x, 1, 271, 1000);
        x.duty(4, 0);
        x.duty(5, 0);
        x.duty(6, 0);
        fraction(x, 5, 31, 32);
        fraction(x, 3, 83193, 100000);
        // 6 can do it now, too: all of a million.
        x = Check.houseOf("house;guest 0 0;guest 0 1 0;guest 0 1 0;guest 0 1 0;guest 0 1 0;guest 0 1 0;guest 0 1 0;"
            + "duty 1 0;duty 2 0;duty 3 0;duty 4 0;");
        x.duty(5, 0);
        x.duty(6, 0);
        fraction(x, 3, 882351, 1000000);
        fraction(x, 9, 999999, 1000000);
        // More are served: the means are added up.
        x = Check.houseOf("house;guest 0 0 0;guest 0 0 0;guest 0 0 0;guest 0 0 0;duty 0 1;duty 1 0;duty 2 0;duty 3 0;");
        fraction(x, 5, 11, 8);
        fraction(x, 10, 2, 1);
        fraction(x, 4, 148, 125);
        // The hour's content has no part in it.
        x = Check.houseOf("house;guest 4 0 0;guest 4 0 0;duty 0 1;duty 1 0;");
        fraction(x, 5, 1, 1);
        fraction(x, 6, 6, 5);
    }

    private static void moodsWrong() {
        GuestStaff x = Check.houseOf("house;guest 0 0 0;guest 0 0 0;duty 0 1;");
        x.moods(3);
        long before = x.digest();
        int[] wrong = {-1, 11, Integer.MIN_VALUE, Integer.MAX_VALUE};
        for (int c : wrong) {
            check.refused("moods(" + c + ")", x, before, x.moods(c), -2);
        }
        check.status(x, wrong.length, 0, 0);
        x.duty(0, -1);
        fraction(x, 3, 0, 1);
    }

    private static void hours() {
        // By hand for seed 1: X is 1103527590, then 377401575 (duties 16838 and 5758 by 8: 6, 6), then
        // 662824084, 1147902781 (10113, 17515: 1, 3), then 2035015474, 368800899 (31051, 5627: 3, 3), then
        // 1508029952, 486256185 (23010, 7419: 2, 3).
        GuestStaff x = Check.houseOf("house;guest 2 0 0;guest 2 0 0;");
        check.due("hours(1, 0)", x.hours(1, 0), 0);
        check.due("hours(1, 1)", x.hours(1, 1), 0);
        check.due("hours(1, 2): 0 does for 1", x.hours(1, 2), 10);
        check.due("hours(1, 4)", x.hours(1, 4), 10);
        // The hours go on from the one that is: a SHOUTER in hour 1 then, in hour 2 behind an hour more.
        x = Check.houseOf("house;guest 0 0 0;guest 3 0 0;");
        check.due("hours(1, 2)", x.hours(1, 2), 5);
        x.duty(0, 1);
        check.due("hour(1)", x.hour(1), 3);
        long before = x.digest();
        check.due("hours(1, 2): the mood that comes, not that which was", x.hours(1, 2), 3);
        check.due("digest()", x.digest(), before);
        check.due("of(0, 3) stays", x.of(0, 3), 1);
        // All seven, the greatest seed, all hours.
        x = Check.houseOf("house;guest 0 0 0;guest 1 0 0;guest 2 0 0;guest 3 0 0;guest 4 0 0;guest 5 0 0;guest 1 0 0;");
        check.due("hours(999999, 60)", x.hours(999999, 60), hoursOfSeven(999999, 60));
        check.due("hours(0, 60)", x.hours(0, 60), hoursOfSeven(0, 60));
        check.due("hours(5, 1)", x.hours(5, 1), hoursOfSeven(5, 1));
    }

    /** The same told again without the class: seven guests who can all serve each other, kinds 0 1 2 3 4 5 1. */
    private static int hoursOfSeven(int seed, int n) {
        int[] kind = {0, 1, 2, 3, 4, 5, 1};
        java.math.BigInteger x = java.math.BigInteger.valueOf(seed);
        int mood = 0;
        for (int hour = 0; hour < n; hour++) {
            int[] server = {-1, -1, -1, -1, -1, -1, -1, -1};
            for (int g = 0; g < 7; g++) {
                x = x.multiply(java.math.BigInteger.valueOf(1103515245)).add(java.math.BigInteger.valueOf(12345))
                    .mod(java.math.BigInteger.ONE.shiftLeft(31));
                int h = x.shiftRight(16).intValue() & 7;
                if (h != g && server[h] < 0) {
                    server[h] = g;
                }
            }
            for (int h = 0; h < 7; h++) {
                boolean quietly = server[h] == 1 || server[h] == 6;
                int[] content = {5, quietly ? 8 : 5, 10, hour % 2 == 0 ? 3 : 5, hour % 4 == 0 ? 0 : quietly ? 8 : 5, 6};
                mood += server[h] < 0 ? 0 : content[kind[h]];
            }
        }
        return mood;
    }

    private static void hoursWrong() {
        GuestStaff x = Check.houseOf("house;guest 0 0 0;guest 0 0 0;duty 0 1;");
        long before = x.digest();
        int[][] wrong = {{-1, 0}, {1000000, 0}, {0, -1}, {0, 61}, {Integer.MIN_VALUE, 1}, {1, Integer.MAX_VALUE}};
        for (int[] w : wrong) {
            check.refused("hours", x, before, x.hours(w[0], w[1]), -2);
        }
        check.status(x, wrong.length, 0, 0);
    }
}
