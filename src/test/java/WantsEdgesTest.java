/**
 * The edges of promises 21 to 28 that are no mere bounds of a number: no notes, six notes, nothing that fits, no hours,
 * no tips, the greatest fractions, seeds that go round. Each test bears a sentence of the document.
 */
public final class WantsEdgesTest {
    private static final Check check = new Check("WantsEdgesTest");
    private static final Twins twins = new Twins(check);

    public static void main(String[] args) {
        nothingIsChanged();
        notesAsTheyCome();
        aSeventhNote();
        forgetOfNoneAndOfSix();
        notesOfOthers();
        noNotes();
        didNotWantThat();
        contentByNothing();
        hoursOfNotes();
        kindAsItIs();
        someSuchWant();
        nothingToDoNext();
        nextOfLikeOnes();
        tipsBehindNoHours();
        tipsUntilNoneIsLeft();
        moodsOfNobody();
        moodsByNoneAndByTen();
        moodsOfOneAndOfSixServers();
        moodsOfSeven();
        onlyTheFractionIsChanged();
        hoursOfNothing();
        itselfOrNoneThere();
        seedsGoRound();
        hoursGoOn();
        check.finish();
    }

    /** "(Nothing is changed by these.)" */
    private static void nothingIsChanged() {
        for (Houses house : Houses.values()) {
            GuestStaff x = house.made();
            for (int g = 0; g < house.guests(); g++) {
                x.wants(g);
                x.is(g);
                x.next(g);
                x.tips(g, 60);
            }
            x.hours(999999, 60);
            twins.alike("wants of " + house, x, house.made(), Twins.COUNTED_NOT);
        }
    }

    /** "NOTES 0 .. 5, as they come" */
    private static void notesAsTheyCome() {
        GuestStaff x = Check.houseOf("house;guest 0 0;");
        GuestStaff y = Check.houseOf("house;guest 0 0;");
        for (int i = 0; i < 6; i++) {
            check.due("count(4)", x.count(4), i);
            check.due("note", x.note(0, 5 - i, i, 99 - i, 30 - i), i + 1);
            y.note(0, i, 5 - i, 94 + i, 25 + i);
        }
        check.holds("their order is told by the digest", x.digest() != y.digest());
        check.status(x, 0, 0, 0);
    }

    /** "BAD; FULL: 6." */
    private static void aSeventhNote() {
        twins.changeNothing("note(0, 0, 0, 0, 0)", Houses.EVERYBODY, x -> x.note(0, 0, 0, 0, 0), -4, Twins.FULL);
        twins.changeNothing("note(6, 5, 7, 99, 30)", Houses.EVERYBODY, x -> x.note(6, 5, 7, 99, 30), -4, Twins.FULL);
        twins.changeNothing("note(7, 0, 0, 0, 0)", Houses.EVERYBODY, x -> x.note(7, 0, 0, 0, 0), -2, Twins.BAD);
        GuestStaff x = Houses.ALL_BUT_ONE.made();
        check.due("the 6th", x.note(5, 5, 7, 99, 30), 6);
        check.due("the 7th", x.note(5, 5, 7, 99, 30), -4);
        x.forget();
        check.due("the first behind forget", x.note(5, 5, 7, 99, 30), 1);
        check.status(x, 0, 0, 1);
    }

    private static void forgetOfNoneAndOfSix() {
        GuestStaff x = Houses.EVERYBODY.made();
        check.due("forget() of six", x.forget(), 6);
        check.due("forget() of none", x.forget(), 0);
        check.due("count(4)", x.count(4), 0);
        check.due("count(5): no note is undone", x.count(5), 8);
        x.undo();
        check.due("count(4): none comes back", x.count(4), 0);
        check.due("forget() of a new object", new GuestStaff().forget(), 0);
    }

    private static void notesOfOthers() {
        GuestStaff x = Houses.EVERYBODY.made();
        x.forget();
        for (int g = 0; g < 6; g++) {
            x.note(g, 0, g, 0, 30);
        }
        check.due("wants(0): its own", x.wants(0), 0);
        check.due("wants(5): its own", x.wants(5), 0);
        check.due("wants(6): no notes are of it", x.wants(6), 255);
        check.due("is(6)", x.is(6), 63);
    }

    private static void noNotes() {
        for (int kind = 0; kind < 6; kind++) {
            GuestStaff x = new GuestStaff();
            x.guest(kind, 7, 0);
            check.due("wants(0) of kind " + kind, x.wants(0), 255);
            check.due("is(0) of kind " + kind, x.is(0), 63);
            check.due("next(0) of kind " + kind, x.next(0), 0);
        }
    }

    /** "0, if it did not WANT that": what it does WANT in truth has no part in it. */
    private static void didNotWantThat() {
        GuestStaff x = Check.houseOf("house;guest 0 7;");
        x.note(0, 0, 7, 0, 0);
        check.due("wants(0): not 7, though it wants that", x.wants(0), 127);
        x.note(0, 0, 0, 0, 0);
        check.due("wants(0): neither 0", x.wants(0), 126);
        check.due("of(0, 1) stays", x.of(0, 1), 7);
        x.note(0, 0, 0, 0, 5);
        check.due("wants(0): both of 0 can not be", x.wants(0), 0);
        x.forget();
        x.note(0, 0, 0, 0, 5);
        check.due("wants(0): the first alone", x.wants(0), 1);
        x.forget();
        x.note(0, 0, 7, 0, 5);
        check.due("wants(0): the last alone", x.wants(0), 128);
    }

    /** A LATE one is content by 0 by what it does want, too: then the note tells nothing. */
    private static void contentByNothing() {
        GuestStaff x = Check.houseOf("house;guest 4 0;");
        x.note(0, 1, 3, 0, 0);
        x.note(0, 0, 4, 96, 0);
        check.due("wants(0) by hours 0 and 96", x.wants(0), 255);
        x.note(0, 0, 4, 97, 0);
        check.due("wants(0) by hour 97", x.wants(0), 255 - 16);
        x.note(0, 1, 3, 0, 1);
        check.due("wants(0): never by 1", x.wants(0), 0);
    }

    /** "in an HOUR (0 .. 99)": the note's own, not the one that is. */
    private static void hoursOfNotes() {
        int[][] even = {{0, 3}, {98, 3}, {1, 5}, {99, 5}};
        for (int[] note : even) {
            GuestStaff x = Check.houseOf("house;guest 3 0;");
            x.hour(1 + note[0] % 2);
            x.note(0, 0, 6, note[0], note[1]);
            check.due("wants(0) by hour " + note[0], x.wants(0), 64);
            x.note(0, 0, 6, note[0], 8 - note[1]);
            check.due("wants(0) by the other", x.wants(0), 0);
        }
    }

    /** "(its KIND as it is)" */
    private static void kindAsItIs() {
        int[] byQuiet = {5, 8, 10, 5, 8, 6};
        int[] byPlain = {5, 5, 10, 5, 5, 6};
        for (int kind = 0; kind < 6; kind++) {
            for (int v = 0; v <= 30; v++) {
                GuestStaff x = new GuestStaff();
                x.guest(kind, 0, 0);
                x.note(0, 1, 2, 99, v);
                int due = v == byQuiet[kind] ? 4 : v == 0 ? 251 : 0;
                check.due("wants(0) of kind " + kind + ", by a quiet one " + v, x.wants(0), due);
                x.forget();
                x.note(0, 4, 2, 99, v);
                due = v == byPlain[kind] ? 4 : v == 0 ? 251 : 0;
                check.due("wants(0) of kind " + kind + ", by a late one " + v, x.wants(0), due);
            }
        }
    }

    /** "KINDS (bits) with some such WANT" */
    private static void someSuchWant() {
        GuestStaff x = Check.houseOf("house;guest 2 0;");
        int[][] notes = {{0, 0, 63}, {0, 3, 8}, {0, 5, 1}, {0, 6, 32}, {0, 8, 2}, {0, 10, 4}, {0, 30, 0},
            {1, 0, 63}, {1, 3, 0}, {1, 5, 9}, {1, 6, 32}, {1, 8, 18}, {1, 10, 4}};
        for (int[] note : notes) {
            x.forget();
            x.note(0, 1, 0, note[0], note[1]);
            check.due("is(0) in hour " + note[0] + " by " + note[1], x.is(0), note[2]);
        }
        // Each kind needs one want for all notes; in hour 0 a LATE one is the only one that has it.
        x.forget();
        x.note(0, 1, 0, 0, 0);
        x.note(0, 1, 0, 1, 8);
        check.due("is(0)", x.is(0), 16);
        x.note(0, 1, 1, 1, 8);
        check.due("is(0): no one wants two", x.is(0), 0);
    }

    /** "none: nothing" */
    private static void nothingToDoNext() {
        GuestStaff x = Check.houseOf("house;guest 0 0;guest 0 0;");
        x.note(0, 0, 0, 0, 30);
        check.due("next(0)", x.next(0), -1);
        check.due("next(1)", x.next(1), 0);
        x.forget();
        check.due("next(0) behind forget", x.next(0), 0);
        check.status(x, 0, 0, 0);
    }

    /** "of like ones the first" */
    private static void nextOfLikeOnes() {
        GuestStaff x = Check.houseOf("house;guest 0 0;");
        for (int s = 0; s < 6; s++) {
            check.due("next(0): " + s + " .. 7 may be", x.next(0), s);
            x.note(0, 0, s, 0, 0);
        }
        check.due("wants(0)", x.wants(0), 192);
        check.due("next(0) of two: 6 tells them apart", x.next(0), 6);
        x.forget();
        x.note(0, 0, 7, 0, 5);
        check.due("next(0) of one: all are alike", x.next(0), 0);
        x.forget();
        x.note(0, 0, 0, 0, 5);
        check.due("next(0) of one, the first", x.next(0), 0);
    }

    private static void tipsBehindNoHours() {
        GuestStaff x = Houses.SOME.made();
        for (int g = 0; g < 3; g++) {
            check.due("tips(" + g + ", 0)", x.tips(g, 0), x.of(g, 4));
        }
        GuestStaff y = Houses.SOME.made();
        y.hour(60);
        for (int g = 0; g < 3; g++) {
            check.due("tips(" + g + ", 60)", x.tips(g, 60), y.of(g, 4));
        }
        check.due("tips of one without a duty", Houses.ONE.made().tips(0, 60), 10);
    }

    private static void tipsUntilNoneIsLeft() {
        GuestStaff x = Check.houseOf("house;guest 0 0;guest 0 1 0;duty 1 0;");
        int[] hours = {0, 1, 9, 10, 11, 60};
        int[] left = {10, 9, 1, 0, 0, 0};
        for (int i = 0; i < hours.length; i++) {
            check.due("tips(0, " + hours[i] + ")", x.tips(0, hours[i]), left[i]);
            check.due("tips(1, " + hours[i] + ")", x.tips(1, hours[i]), 20 - left[i]);
        }
    }

    private static void fraction(String name, GuestStaff x, int c, long above, long below) {
        check.due("moods(" + c + ") of " + name, x.moods(c), 1);
        check.fraction("moods(" + c + ") of " + name, x, above, below);
    }

    private static void moodsOfNobody() {
        GuestStaff x = Check.houseOf("house;guest 0 0;guest 0 1 0;duty 1 0;");
        fraction("one served", x, 3, 3, 10);
        x.house();
        check.fraction("house", x, 3, 10);
        for (int c = 0; c <= 10; c++) {
            fraction("nobody", x, c, 0, 1);
        }
        fraction("one alone", Houses.ONE.made(), 10, 0, 1);
        fraction("one that can not", Check.houseOf("house;guest 0 0;guest 0 1;duty 1 0;"), 10, 0, 1);
    }

    /** "by c of 10 (0 .. 10)" */
    private static void moodsByNoneAndByTen() {
        for (Houses house : Houses.values()) {
            GuestStaff x = house.made();
            fraction(house.toString(), x, 0, 0, 1);
            fraction(house.toString(), x, 10, x.count(3), 1);
        }
    }

    private static void moodsOfOneAndOfSixServers() {
        GuestStaff x = new GuestStaff();
        for (int g = 0; g < 7; g++) {
            x.guest(0, 0, 1);
        }
        // 1 less 0.9, 0.9 x 0.9, and so on.
        long[] above = {1, 19, 271, 3439, 40951, 468559};
        long below = 1;
        for (int g = 1; g < 7; g++) {
            x.duty(g, 0);
            below *= 10;
            fraction(g + " servers", x, 1, above[g - 1], below);
        }
        fraction("6 servers", x, 5, 63, 64);
        fraction("6 servers", x, 2, 11529, 15625);
        fraction("6 servers", x, 9, 999999, 1000000);
    }

    /** "lowest terms, below above 0": sums that come out even, and the most that are served. */
    private static void moodsOfSeven() {
        GuestStaff x = new GuestStaff();
        for (int g = 0; g < 7; g++) {
            x.guest(4, 0, 1);
        }
        for (int g = 0; g < 7; g++) {
            x.duty(g, (g + 1) % 7);
        }
        long[] above = {0, 7, 7, 21, 14, 7, 21, 49, 28, 63, 7};
        long[] below = {1, 10, 5, 10, 5, 2, 5, 10, 5, 10, 1};
        for (int c = 0; c <= 10; c++) {
            fraction("a ring of seven", x, c, above[c], below[c]);
        }
    }

    private static void onlyTheFractionIsChanged() {
        GuestStaff x = Houses.SOME.made();
        x.moods(10);
        check.fraction("moods(10)", x, 2, 1);
        x.moods(3);
        twins.alike("moods", x, Houses.SOME.made(), Twins.COUNTED_NOT);
        // What is changed later leaves the fraction alone.
        x = Houses.SOME.made();
        x.moods(10);
        x.duty(0, -1);
        x.undo();
        x.from(0);
        Check.read(x, "house;");
        x.house();
        check.fraction("all others", x, 2, 1);
    }

    private static void hoursOfNothing() {
        for (Houses house : Houses.values()) {
            check.due("hours(999999, 0) of " + house, house.made().hours(999999, 0), 0);
        }
        check.due("hours(999999, 60) of nobody", new GuestStaff().hours(999999, 60), 0);
        check.due("hours(999999, 60) of one", Houses.ONE.made().hours(999999, 60), 0);
    }

    /**
     * "(itself, or none there: nobody)". By hand: seed 0 gives X 12345, 1406932606, 654583775, 1449466924, 229283573,
     * 1109335178, 1051550459, and so the duties 0 4 4 5 2 7 5. 0 does for itself; 4 and 5 are there from five and six
     * guests on, and 7 is never there.
     */
    private static void itselfOrNoneThere() {
        int[] due = {0, 0, 0, 0, 0, 2 * 5, 3 * 5, 3 * 5};
        GuestStaff x = new GuestStaff();
        for (int n = 0; n <= 7; n++) {
            check.due("hours(0, 1) of " + n, x.hours(0, 1), due[n]);
            x.guest(0, 0, 1);
        }
    }

    /** "by 2147483648 what is left over": seeds and hours that go round often, by another arithmetic. */
    private static void seedsGoRound() {
        GuestStaff x = new GuestStaff();
        for (int g = 0; g < 7; g++) {
            x.guest(2, 0, 1);
        }
        int[] seeds = {0, 1, 2, 12345, 65535, 65536, 999998, 999999};
        for (int seed : seeds) {
            for (int n = 1; n <= 60; n += 59) {
                check.due("hours(" + seed + ", " + n + ")", x.hours(seed, n), bankersBySeed(seed, n));
            }
        }
    }

    /** Java's own wrap-around keeps the lowest 31 bits as the remainder would. */
    private static int bankersBySeed(int seed, int n) {
        int x = seed;
        int mood = 0;
        for (int hour = 0; hour < n; hour++) {
            int served = 0;
            for (int g = 0; g < 7; g++) {
                x = x * 1103515245 + 12345 & 0x7fffffff;
                int h = x >>> 16 & 7;
                served |= h == g || h == 7 ? 0 : 1 << h;
            }
            mood += 10 * Integer.bitCount(served);
        }
        return mood;
    }

    /** The HOUR goes on from the one that is; what was of MOOD and TIPS has no part in it. */
    private static void hoursGoOn() {
        GuestStaff x = Check.houseOf("house;guest 3 0 0;guest 3 0 0;duty 0 1;duty 1 0;");
        int even = x.hours(7, 60);
        x.hour(1);
        int odd = x.hours(7, 60);
        x.hour(1);
        check.due("hours(7, 60) two hours later", x.hours(7, 60), even);
        check.holds("an odd hour tells otherwise", odd != even);
        x.hour(60);
        check.due("hours(7, 60) sixty hours later", x.hours(7, 60), even);
    }
}
