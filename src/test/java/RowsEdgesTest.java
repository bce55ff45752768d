/**
 * The edges of promises 13 to 20 that are no mere bounds of a number: houses of nobody, of one, of seven; no such row;
 * of like ones which; and that nothing is changed. Each test bears a sentence of the document.
 */
public final class RowsEdgesTest {
    private static final Check check = new Check("RowsEdgesTest");
    private static final Twins twins = new Twins(check);

    public static void main(String[] args) {
        nothingIsChanged();
        withNoGuestsOneRow();
        nobodyTheOwn();
        eachOfJustOne();
        rowsOfSeven();
        theFirstRising();
        noSuchRow();
        leastWork();
        mostThisHour();
        mostOfLikeOnes();
        mostOfNothing();
        nobodyElse();
        comeBack();
        smallestOfTwoAtLeast();
        smallestOfLikeOnes();
        swapNotSoMany();
        takeInOfNobody();
        takeInOfSixAndSeven();
        takeInByBits();
        check.finish();
    }

    /** The duties of the first row as figures. */
    private static int allRow(GuestStaff x) {
        int figures = 0;
        for (int g = 0; g < x.count(0); g++) {
            figures = 10 * figures + x.all(g);
        }
        return figures;
    }

    private static int mostRow(GuestStaff x) {
        int figures = 0;
        for (int g = 0; g < x.count(0); g++) {
            figures = 10 * figures + x.most(g);
        }
        return figures;
    }

    /** "(Nothing is changed by these.)": not even STATUS, but where a call is refused. */
    private static void nothingIsChanged() {
        for (Houses house : Houses.values()) {
            GuestStaff x = house.made();
            for (int g = -1; g < house.guests(); g++) {
                x.all(g);
                x.most(g);
                x.rings(g);
                x.swap(g);
            }
            x.least();
            x.lone();
            x.smallest();
            if (house.guests() < 7) {
                x.takeIn(0);
                x.takeIn(255);
            }
            twins.alike("rows of " + house, x, house.made(), Twins.COUNTED_NOT);
        }
    }

    /** "(with no GUESTS: one row)" */
    private static void withNoGuestsOneRow() {
        GuestStaff x = new GuestStaff();
        check.due("all(-1)", x.all(-1), 1);
        check.due("least()", x.least(), 0);
        check.due("most(-1)", x.most(-1), 0);
        Check.read(x, "house;");
        check.due("all(-1) of a house that is read", x.all(-1), 1);
        x.guest(0, 0, 1);
        x.house();
        check.due("all(-1) behind house", x.all(-1), 1);
        twins.changeNothing("all(0)", Houses.NOBODY, y -> y.all(0), -10, Twins.BAD);
        twins.changeNothing("most(0)", Houses.NOBODY, y -> y.most(0), -10, Twins.BAD);
    }

    /** "nobody the own": one alone has no row, whatever it can do. */
    private static void nobodyTheOwn() {
        GuestStaff x = Check.houseOf("house;guest 0 7 7;");
        check.due("all(-1)", x.all(-1), 0);
        check.due("all(0)", x.all(0), -1);
        check.due("least()", x.least(), -1);
        check.due("most(-1)", x.most(-1), -1);
        check.due("most(0)", x.most(0), -1);
        x = Check.houseOf("house;guest 0 0 0;guest 0 7 7;");
        check.due("all(-1) of two", x.all(-1), 0);
        x = Check.houseOf("house;guest 0 0 7;guest 0 7 0;");
        check.due("all(-1) of two", x.all(-1), 1);
        check.due("the row", allRow(x), 10);
    }

    /** "each GUEST being that of just one" */
    private static void eachOfJustOne() {
        GuestStaff x = Check.houseOf("house;guest 0 0 1;guest 0 1 0;guest 0 2 0 1;");
        check.due("all(-1): nobody does for 2", x.all(-1), 0);
        x = Check.houseOf("house;guest 0 0 1 2;guest 0 1 0 2;guest 0 2 0 1;");
        check.due("all(-1)", x.all(-1), 2);
        check.due("the first", allRow(x), 120);
    }

    private static void rowsOfSeven() {
        GuestStaff x = Check.houseOf(Houses.RING_OF_SEVEN);
        check.due("all(-1) of a ring", x.all(-1), 1);
        check.due("the row", allRow(x), 1234560);
        check.due("least()", x.least(), 2 + 1 + (2 + 3) + 2 + 1 + (2 + 6) / 2 + 1);
        check.due("most(-1)", x.most(-1), 5 + 5 + 10 + 3 + 0 + 6 + 5);
        GuestStaff y = new GuestStaff();
        for (int g = 0; g < 7; g++) {
            y.guest(2, 7, 255);
        }
        check.due("all(-1) of all", y.all(-1), 1854);
        check.due("least(): the most work that it can be", y.least(), 7 * 9);
        check.due("most(-1): the most content that it can be", y.most(-1), 70);
        check.due("the first", allRow(y), 1032564);
        check.due("the first of most", mostRow(y), 1032564);
    }

    /** "the DUTY of a GUEST in the first (rising)": a small DUTY of the first ones counts ahead of the others. */
    private static void theFirstRising() {
        GuestStaff x = Check.houseOf("house;guest 0 0 1 3;guest 0 1 2;guest 0 2 0 3;guest 0 3 0 1;");
        check.due("all(-1): 1230 and 3201", x.all(-1), 2);
        check.due("the first", allRow(x), 1230);
        // Without 0's first choice the other row is left.
        x = Check.houseOf("house;guest 0 0 3;guest 0 1 2;guest 0 2 0 3;guest 0 3 0 1;");
        check.due("all(-1)", x.all(-1), 1);
        check.due("the first", allRow(x), 3201);
    }

    /** "none": NONE, which is no refusal. */
    private static void noSuchRow() {
        for (int n = 1; n <= 7; n++) {
            GuestStaff x = new GuestStaff();
            for (int g = 0; g < n; g++) {
                // The last one can do nothing, so nobody is left for one of them.
                x.guest(g % 6, g, g == n - 1 ? 0 : 255);
            }
            check.due("all(-1) of " + n, x.all(-1), 0);
            check.due("least() of " + n, x.least(), -1);
            check.due("most(-1) of " + n, x.most(-1), -1);
            for (int g = 0; g < n; g++) {
                check.due("all(" + g + ") of " + n, x.all(g), -1);
                check.due("most(" + g + ") of " + n, x.most(g), -1);
            }
            check.status(x, 0, 0, 0);
        }
    }

    /** "all doing the SERVICE that is WANTED": of the one that is done for. */
    private static void leastWork() {
        GuestStaff x = Check.houseOf("house;guest 2 0 7;guest 0 7 0;");
        check.due("least(): the banker does 7", x.least(), 9 + 2);
        x = Check.houseOf("house;guest 2 7 0;guest 0 0 7;");
        check.due("least(): the banker does 0", x.least(), 2 + 2);
        x = Check.houseOf("house;guest 5 7 1;guest 5 1 7;");
        check.due("least(): half, cut", x.least(), 1 + 4);
        // The row of the least work is not the first: the banker 0 does the least want that is there.
        x = Check.houseOf("house;guest 2 3 0 7;guest 0 7 3 0;guest 0 0 7 3;");
        check.due("the first", allRow(x), 120);
        check.due("least()", x.least(), 2 + 2 + 2);
    }

    /** "how CONTENT all would be together this HOUR": not by the DUTIES that are. */
    private static void mostThisHour() {
        GuestStaff x = Check.houseOf("house;guest 4 0 1;guest 3 1 0;duty 0 1;");
        int[] due = {0 + 3, 5 + 5, 5 + 3, 5 + 5, 0 + 3};
        for (int hour = 0; hour < due.length; hour++) {
            check.due("most(-1) in " + hour, x.most(-1), due[hour]);
            x.hour(1);
        }
    }

    private static void mostOfLikeOnes() {
        GuestStaff x = Check.houseOf("house;guest 0 0 0;guest 0 0 0;guest 0 0 0;guest 0 0 0;");
        check.due("most(-1)", x.most(-1), 20);
        check.due("the first", mostRow(x), 1032);
        // The rows are 1 2 0 and 2 0 1; by each of them one quiet one is served by the other.
        x = Check.houseOf("house;guest 1 0 0;guest 1 0 0;guest 0 0 0;");
        check.due("most(-1): 1 by 0, or 0 by 1", x.most(-1), 8 + 5 + 5);
        check.due("the first", mostRow(x), 120);
        x = Check.houseOf("house;guest 1 0 0;guest 0 0 0;guest 1 0 0;");
        check.due("most(-1): 0 by 2, or 2 by 0", x.most(-1), 8 + 5 + 5);
        check.due("the first", mostRow(x), 120);
    }

    /** A row by which all are content by 0 is a row all the same. */
    private static void mostOfNothing() {
        GuestStaff x = Check.houseOf("house;guest 4 0 0;guest 4 0 0;");
        check.due("most(-1)", x.most(-1), 0);
        check.due("most(0)", x.most(0), 1);
        x.hour(1);
        check.due("most(-1)", x.most(-1), 10);
    }

    /** "GUESTS (bits) whom nobody else CAN SERVE" */
    private static void nobodyElse() {
        GuestStaff x = new GuestStaff();
        check.due("lone() of nobody", x.lone(), 0);
        for (int g = 0; g < 7; g++) {
            x.guest(0, g, 1 << g);
            check.due("lone(): each can do what it wants alone", x.lone(), (2 << g) - 1);
        }
        x = Check.houseOf(Houses.RING_OF_SEVEN);
        check.due("lone() of a ring", x.lone(), 0);
        x = Check.houseOf("house;guest 0 0;guest 0 0 0;");
        check.due("lone(): 1 does for itself only", x.lone(), 2);
    }

    /** "(0: it does not come back)" */
    private static void comeBack() {
        GuestStaff x = Check.houseOf(Houses.RING_OF_SEVEN);
        check.due("rings(-1) of no duties", x.rings(-1), 0);
        check.due("rings(0) of no duty", x.rings(0), 0);
        for (int n = 2; n <= 7; n++) {
            for (int g = 0; g < 7; g++) {
                // A ring of the first n; the others lead into it one by one.
                x.duty(g, g < n ? (g + 1) % n : g - 1);
            }
            check.due("rings(-1) of " + n, x.rings(-1), n);
            for (int g = 0; g < 7; g++) {
                check.due("rings(" + g + ") of " + n, x.rings(g), g < n ? n : 0);
            }
        }
        x.duty(3, -1);
        check.due("rings(-1) of a chain of seven", x.rings(-1), 0);
        check.due("rings(4) of the chain's first", x.rings(4), 0);
    }

    /** "the fewest GUESTS (2 at least" */
    private static void smallestOfTwoAtLeast() {
        GuestStaff x = new GuestStaff();
        check.due("smallest() of nobody", x.smallest(), -1);
        x.guest(0, 0, 255);
        check.due("smallest() of one", x.smallest(), -1);
        x.guest(0, 7, 255);
        check.due("smallest() of two", x.smallest(), 3);
        x = Check.houseOf("house;guest 0 0 0;guest 0 1 1;guest 0 2 2;");
        check.due("smallest() of three alone", x.smallest(), -1);
        x = Check.houseOf(Houses.RING_OF_SEVEN);
        check.due("smallest() of a ring of seven", x.smallest(), 127);
        x.guest(0, 0, 0);
        check.status(x, 0, 0, 1);
    }

    /** "of like ones the least", as bits; fewer ahead of less. */
    private static void smallestOfLikeOnes() {
        GuestStaff x = Check.houseOf("house;guest 0 0 6;guest 0 1 5;guest 0 2 4;guest 0 3;guest 0 4 2;guest 0 5 1;guest 0 6 0;");
        check.due("smallest() of 0 6, 1 5, 2 4", x.smallest(), 4 + 16);
        x = Check.houseOf("house;guest 0 0 1;guest 0 1 2;guest 0 2 0;guest 0 3 4;guest 0 4 5;guest 0 5 3;");
        check.due("smallest() of two rings of three", x.smallest(), 7);
        x = Check.houseOf("house;guest 0 0 1;guest 0 1 2;guest 0 2 0;guest 0 3;guest 0 4;guest 0 5 6;guest 0 6 5;");
        check.due("smallest(): two, though their bits are more", x.smallest(), 32 + 64);
    }

    /** "-5: not so many. BAD: -10." */
    private static void swapNotSoMany() {
        for (Houses house : Houses.values()) {
            check.due("swap(-1) of " + house, house.made().swap(-1), 0);
            twins.changeNothing("swap(0)", house, x -> x.swap(0), -5, Twins.COUNTED_NOT);
            twins.changeNothing("swap(21)", house, x -> x.swap(21), -5, Twins.COUNTED_NOT);
        }
        // Would gain, but the other would lose; would be served by oneself; can not be served by the other's.
        String[] houses = {
            "house;guest 1 0;guest 0 5 0;guest 1 0;guest 1 5 0;duty 1 0;duty 3 2;",
            "house;guest 1 0 0;guest 1 0 0;guest 0 5 0;duty 2 0;duty 0 1;",
            "house;guest 1 0;guest 0 5 0;guest 1 1;guest 1 5 1;duty 1 0;duty 3 2;"};
        for (String house : houses) {
            GuestStaff x = Check.houseOf(house);
            for (int hour = 0; hour < 5; hour++) {
                check.due("swap(-1) of " + house, x.swap(-1), 0);
                x.hour(1);
            }
        }
    }

    private static void takeInOfNobody() {
        GuestStaff x = new GuestStaff();
        check.due("takeIn(0)", x.takeIn(0), 0);
        check.due("takeIn(255): it would be alone", x.takeIn(255), 0);
        check.status(x, 0, 0, 0);
    }

    /** "NO: there are 7." */
    private static void takeInOfSixAndSeven() {
        GuestStaff x = Check.houseOf("house;guest 0 0 1;guest 0 1 2;guest 0 2 3;guest 0 3 4;guest 0 4 5;guest 0 5 6 7;");
        check.due("takeIn(1) of six", x.takeIn(1), 64 + 128);
        check.due("takeIn(254) of six", x.takeIn(254), 0);
        check.due("count(0) stays", x.count(0), 6);
        check.due("count(5) stays", x.count(5), 0);
        x.guest(0, 6, 1);
        check.due("takeIn(1) of seven", x.takeIn(1), -3);
        check.status(x, 0, 1, 0);
        twins.changeNothing("takeIn(255)", Houses.EVERYBODY, y -> y.takeIn(255), -3, Twins.NO);
        twins.changeNothing("takeIn(256)", Houses.EVERYBODY, y -> y.takeIn(256), -2, Twins.BAD);
    }

    private static void takeInByBits() {
        GuestStaff x = Check.houseOf("house;guest 0 7 0 1 2 3 4 5 6 7;");
        check.due("takeIn(128): any want", x.takeIn(128), 255);
        check.due("takeIn(127): what is wanted is not there", x.takeIn(127), 0);
        x = Check.houseOf("house;guest 0 7 7;");
        check.due("takeIn(255): the last want alone", x.takeIn(255), 128);
        x = Check.houseOf("house;guest 0 0 0;");
        check.due("takeIn(255): the first want alone", x.takeIn(255), 1);
    }
}
