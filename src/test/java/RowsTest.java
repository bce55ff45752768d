/** Promises 13 to 20: all, least, most, lone, rings, smallest, swap, takeIn. */
public final class RowsTest {
    private static final Check check = new Check("RowsTest");

    public static void main(String[] args) {
        noGuests();
        derangements();
        allRows();
        least();
        most();
        mostByHours();
        noRow();
        wrongNumbers();
        lone();
        rings();
        smallest();
        swap();
        takeIn();
        nothingIsChanged();
        check.finish();
    }

    private static void row(GuestStaff x, String name, int... due) {
        for (int g = 0; g < due.length; g++) {
            int got = name.equals("all") ? x.all(g) : x.most(g);
            check.due(name + "(" + g + ")", got, due[g]);
        }
    }

    private static void noGuests() {
        GuestStaff x = new GuestStaff();
        check.due("all(-1)", x.all(-1), 1);
        check.due("least()", x.least(), 0);
        check.due("most(-1)", x.most(-1), 0);
        check.due("lone()", x.lone(), 0);
        check.due("rings(-1)", x.rings(-1), 0);
        check.due("smallest()", x.smallest(), -1);
        check.due("swap(-1)", x.swap(-1), 0);
        check.due("takeIn(255)", x.takeIn(255), 0);
        check.status(x, 0, 0, 0);
        check.due("all(0)", x.all(0), -10);
        check.due("most(0)", x.most(0), -10);
        check.due("rings(0)", x.rings(0), -10);
        check.status(x, 3, 0, 0);
    }

    /** Where everybody can do all, the rows are those of which none keeps a place. */
    private static void derangements() {
        int[] due = {1, 0, 1, 2, 9, 44, 265, 1854};
        GuestStaff x = new GuestStaff();
        for (int n = 0; n <= 7; n++) {
            check.due("all(-1) of " + n, x.all(-1), due[n]);
            x.guest(0, n, 255);
        }
        row(x, "all", 1, 0, 3, 2, 5, 6, 4);
    }

    private static void allRows() {
        // 0 can do for 1 and 2, 1 for 2 and 3, 2 for 0 and 3, 3 for 0 and 1.
        GuestStaff x = Check.houseOf("house;guest 0 0 1 2;guest 0 1 2 3;guest 0 2 0 3;guest 0 3 0 1;");
        // The rows are 1 2 3 0 and 2 3 0 1.
        check.due("all(-1)", x.all(-1), 2);
        row(x, "all", 1, 2, 3, 0);
        // If 1 can not do for 2, the first falls.
        x = Check.houseOf("house;guest 0 0 1 2;guest 0 1 3;guest 0 2 0 3;guest 0 3 0 1;");
        check.due("all(-1)", x.all(-1), 1);
        row(x, "all", 2, 3, 0, 1);
        // What 0 can do first leads nowhere: 1 is whom only 2 can serve.
        x = Check.houseOf("house;guest 0 0 1 2;guest 0 1 0;guest 0 2 1;");
        check.due("all(-1)", x.all(-1), 1);
        row(x, "all", 2, 0, 1);
    }

    private static void least() {
        // Two bankers and two plain ones, wants 0, 7, 3, 5; all can do all.
        GuestStaff x = Check.houseOf("house;guest 2 0 0 3 5 7;guest 2 7 0 3 5 7;guest 0 3 0 3 5 7;guest 0 5 0 3 5 7;");
        // The bankers do the two least that are not their own: 1 does 0 (2), 0 does 3 (5); the others 2 each.
        check.due("least()", x.least(), 2 + 5 + 2 + 2);
        // The want that is done counts, not the own one.
        x = Check.houseOf("house;guest 2 7 0;guest 0 0 7;");
        check.due("least()", x.least(), 2 + 2);
        x = Check.houseOf("house;guest 2 0 7;guest 5 7 0;");
        check.due("least()", x.least(), 9 + 1);
        x = Check.houseOf("house;guest 1 0 7;guest 5 7 0;");
        check.due("least()", x.least(), 1 + 1);
    }

    private static void most() {
        // Quiet ones would rather be served by quiet ones: 0 and 2 are quiet.
        GuestStaff x = Check.houseOf("house;guest 1 0 0 1;guest 0 1 0 1;guest 1 0 0 1;guest 0 1 0 1;");
        check.due("most(-1)", x.most(-1), 8 + 5 + 8 + 5);
        row(x, "most", 2, 3, 0, 1);
        row(x, "all", 1, 0, 3, 2);
        // Of like ones the first.
        x = Check.houseOf("house;guest 0 0 0;guest 2 0 0;guest 5 0 0;");
        check.due("most(-1)", x.most(-1), 5 + 10 + 6);
        row(x, "most", 1, 2, 0);
    }

    private static void mostByHours() {
        GuestStaff x = Check.houseOf("house;guest 1 0 0;guest 4 0 0;guest 1 0 0;guest 3 0 0;");
        check.due("most(-1) in 0", x.most(-1), 8 + 0 + 8 + 3);
        row(x, "most", 2, 3, 0, 1);
        x.hour(1);
        check.due("most(-1) in 1", x.most(-1), 8 + 8 + 5 + 5);
        row(x, "most", 1, 3, 0, 2);
        x.hour(1);
        check.due("most(-1) in 2", x.most(-1), 8 + 8 + 5 + 3);
    }

    private static void noRow() {
        // All are servable, but 1 and 2 by 0 alone.
        GuestStaff x = Check.houseOf("house;guest 0 0 1;guest 0 1 0;guest 0 1 0;");
        check.due("lone()", x.lone(), 0);
        check.due("all(-1)", x.all(-1), 0);
        check.due("least()", x.least(), -1);
        check.due("most(-1)", x.most(-1), -1);
        row(x, "all", -1, -1, -1);
        row(x, "most", -1, -1, -1);
        check.due("smallest()", x.smallest(), 3);
        check.status(x, 0, 0, 0);
    }

    private static void wrongNumbers() {
        GuestStaff x = Check.houseOf("house;guest 0 0 1;guest 0 1 0;");
        int[] wrong = {-2, 2, 7, Integer.MIN_VALUE, Integer.MAX_VALUE};
        long before = x.digest();
        for (int g : wrong) {
            check.refused("all(" + g + ")", x, before, x.all(g), -10);
            check.refused("most(" + g + ")", x, before, x.most(g), -10);
            check.refused("rings(" + g + ")", x, before, x.rings(g), -10);
        }
        check.status(x, 3 * wrong.length, 0, 0);
        check.refused("swap(-2)", x, before, x.swap(-2), -10);
        check.refused("swap of the least number", x, before, x.swap(Integer.MIN_VALUE), -10);
        check.refused("takeIn(-1)", x, before, x.takeIn(-1), -2);
        check.refused("takeIn(256)", x, before, x.takeIn(256), -2);
        check.status(x, 3 * wrong.length + 4, 0, 0);
    }

    private static void lone() {
        GuestStaff x = Check.houseOf("house;guest 0 0 0;");
        check.due("lone(): oneself is nobody else", x.lone(), 1);
        // 0 wants what it alone can do; 1 is served by 0; 2 wants what nobody can do.
        x = Check.houseOf("house;guest 0 0 0 1;guest 0 1 4;guest 0 7 5;duty 0 1;");
        check.due("lone()", x.lone(), 1 + 4);
        x.guest(0, 4, 129);
        check.due("lone()", x.lone(), 0);
        x.guest(0, 6, 64);
        check.due("lone()", x.lone(), 16);
    }

    private static void rings() {
        GuestStaff x = Check.houseOf("house;guest 0 0;guest 0 0;guest 0 0;guest 0 0;guest 0 0;guest 0 0;guest 0 0;"
            + "duty 0 1;duty 1 2;duty 2 0;duty 3 2;duty 4 5;duty 5 4;");
        int[] due = {3, 3, 3, 0, 2, 2, 0};
        for (int g = 0; g < 7; g++) {
            check.due("rings(" + g + "), able or not", x.rings(g), due[g]);
        }
        check.due("rings(-1)", x.rings(-1), 5);
        x.duty(2, 3);
        check.due("rings(3)", x.rings(3), 2);
        check.due("rings(0)", x.rings(0), 0);
        check.due("rings(-1)", x.rings(-1), 4);
        int[] round = {1, 2, 3, 4, 5, 6, 0};
        for (int g = 0; g < 7; g++) {
            x.duty(g, round[g]);
        }
        check.due("rings(6) of all", x.rings(6), 7);
        check.due("rings(-1)", x.rings(-1), 7);
        x.duty(6, -1);
        check.due("rings(-1) of a chain", x.rings(-1), 0);
    }

    private static void smallest() {
        // A ring of three 0 1 2, and a pair 3 4: the pair has fewer.
        GuestStaff x = Check.houseOf("house;guest 0 0 1;guest 0 1 2;guest 0 2 0;guest 0 3 4;guest 0 4 3;");
        check.due("smallest()", x.smallest(), 8 + 16);
        // Pairs 0 3 and 1 2: of like ones the least bits.
        x = Check.houseOf("house;guest 0 0 3;guest 0 1 2;guest 0 2 1;guest 0 3 0;");
        check.due("smallest()", x.smallest(), 2 + 4);
        // One that can do what it wants is no house.
        x = Check.houseOf("house;guest 0 0 0;guest 0 1 1;");
        check.due("smallest()", x.smallest(), -1);
        // A ring of all seven.
        x = Check.houseOf("house;guest 0 0 1;guest 0 1 2;guest 0 2 3;guest 0 3 4;guest 0 4 5;guest 0 5 6;guest 0 6 0;");
        check.due("smallest()", x.smallest(), 127);
        // Only the last two.
        x = Check.houseOf("house;guest 0 0;guest 0 0;guest 0 0;guest 0 0;guest 0 0;guest 0 5 6;guest 0 6 5;");
        check.due("smallest()", x.smallest(), 96);
    }

    /**
     * By the kinds as they are told no two would swap: only a QUIET server makes one more content, and if the
     * one gets a quiet server by it, the other had it and loses it. So what can be seen is that none is told.
     */
    private static void swap() {
        // 0 and 2 are quiet; 1 (plain) serves 0, 3 (quiet) serves 2. 0 would gain, and 2 would lose.
        GuestStaff x = Check.houseOf("house;guest 1 0;guest 0 5 0;guest 1 0;guest 1 5 0;duty 1 0;duty 3 2;");
        check.due("of(0, 6)", x.of(0, 6), 5);
        check.due("of(2, 6)", x.of(2, 6), 8);
        check.due("swap(-1)", x.swap(-1), 0);
        check.due("swap(0)", x.swap(0), -5);
        check.due("swap of a great number", x.swap(Integer.MAX_VALUE), -5);
        // As much content is not more.
        x = Check.houseOf("house;guest 0 0;guest 0 0;guest 0 5 0;guest 0 5 0;duty 2 0;duty 3 1;");
        check.due("swap(-1)", x.swap(-1), 0);
        // One that is not served does not count.
        x = Check.houseOf("house;guest 1 0;guest 1 0;guest 1 5 0;duty 2 0;");
        check.due("swap(-1)", x.swap(-1), 0);
        check.due("swap(0)", x.swap(0), -5);
        check.status(x, 0, 0, 0);
    }

    private static void takeIn() {
        // 0 can do 2 and wants 0: one more that can do 0 closes the house, if it wants 2.
        GuestStaff x = Check.houseOf("house;guest 0 0 2 3;");
        check.due("takeIn(1)", x.takeIn(1), 4 + 8);
        check.due("takeIn(2)", x.takeIn(2), 0);
        check.due("takeIn(255)", x.takeIn(255), 4 + 8);
        check.due("takeIn(0)", x.takeIn(0), 0);
        // A house that is closed can be opened up by any of its duties.
        x = Check.houseOf("house;guest 0 0 1 5;guest 0 1 0 6;");
        check.due("takeIn(3)", x.takeIn(3), 2 + 32 + 64 + 1);
        check.due("takeIn(1)", x.takeIn(1), 1 + 64);
        // With seven there is no room.
        x = Check.houseOf("house;guest 0 0;guest 0 0;guest 0 0;guest 0 0;guest 0 0;guest 0 0;");
        check.due("takeIn(1) of six", x.takeIn(1), 0);
        x.guest(0, 0, 255);
        long before = x.digest();
        check.refused("takeIn(1) of seven", x, before, x.takeIn(1), -3);
        check.refused("BAD ahead of NO", x, before, x.takeIn(256), -2);
        check.status(x, 1, 1, 0);
    }

    private static void nothingIsChanged() {
        GuestStaff x = Check.houseOf("house;guest 1 0 0 1;guest 0 1 0 1;guest 1 0 0 1;guest 0 1 0 1;duty 0 1;duty 1 0;");
        x.hour(3);
        x.note(0, 0, 0, 0, 5);
        x.moods(4);
        long before = x.digest();
        x.all(-1);
        x.all(2);
        x.least();
        x.most(-1);
        x.most(2);
        x.lone();
        x.rings(-1);
        x.rings(1);
        x.smallest();
        x.swap(-1);
        x.swap(0);
        x.takeIn(255);
        check.due("digest()", x.digest(), before);
        check.status(x, 0, 0, 0);
        check.due("undo()", x.undo(), 2);
    }
}
