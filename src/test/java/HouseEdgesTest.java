/**
 * The edges of promises 1 to 12 that are no mere bounds of a number: what is at first, empty, full, none left, and
 * where something goes round. Each test bears a sentence of the document.
 */
public final class HouseEdgesTest {
    private static final Check check = new Check("HouseEdgesTest");
    private static final Twins twins = new Twins(check);

    public static void main(String[] args) {
        asToldNoGuests();
        objectsApart();
        houseOfNobodyAndOfEverybody();
        allAsAtFirstBut();
        guestsAsTheyCome();
        anEighthGuest();
        tipsOfTenAtFirst();
        dutyOfNobodyAtFirst();
        theOwn();
        aDutyOneCanNotDo();
        bytesOfTheText();
        clearOfNoneAndOfAll();
        theFirstSuchOneCounts();
        notServedIsContentByNothing();
        aTipIfThereIsOne();
        tipsGoRound();
        contentAheadOfTheHour();
        hoursOneAndSixty();
        noneMayBeUndone();
        eightAtMost();
        undoOfAHourIsNotOfTwo();
        behindAGuestNoneMayBe();
        lateByFour();
        canServeByBits();
        alike();
        workOfTheFirstAndTheLast();
        nobodyOfBefore();
        theLastCallOf512();
        check.finish();
    }

    /** "As told; no GUESTS." */
    private static void asToldNoGuests() {
        GuestStaff x = new GuestStaff();
        check.counts("new", x, 0, 0, 0, 0, 0, 0, 0);
        check.fraction("new", x, 0, 1);
        check.status(x, 0, 0, 0);
        check.due("forget()", x.forget(), 0);
        check.due("clear()", x.clear(), 0);
        check.due("house()", x.house(), 0);
        check.due("read()", x.read(), -10);
        check.due("undo()", x.undo(), -3);
        check.due("from(0)", x.from(0), -3);
        check.due("from(1)", x.from(1), -3);
        check.status(x, 0, 3, 0);
    }

    private static void objectsApart() {
        GuestStaff x = Houses.EVERYBODY.made();
        GuestStaff y = new GuestStaff();
        check.holds("a new object knows nothing of another", Twins.tell(y).equals(Twins.tell(new GuestStaff())));
        y.guest(1, 1, 1);
        check.holds("another is as it was", Twins.tell(x).equals(Twins.tell(Houses.EVERYBODY.made())));
    }

    /** "how many GUESTS there were" */
    private static void houseOfNobodyAndOfEverybody() {
        for (Houses house : Houses.values()) {
            GuestStaff x = house.made();
            check.due("house() of " + house, x.house(), house.guests());
            check.due("house() again", x.house(), 0);
        }
    }

    /** "All as at first (but for IMAGES, THE TEXT, THE FRACTION, STATUS)" */
    private static void allAsAtFirstBut() {
        for (Houses house : Houses.values()) {
            GuestStaff x = house.made();
            GuestStaff y = house.made();
            long above = x.part(0);
            long below = x.part(1);
            int bytes = x.count(6);
            int bad = x.status(0);
            x.house();
            check.counts("house() of " + house, x, 0, 0, 0, 0, 0, 0, bytes);
            check.fraction("house() of " + house, x, above, below);
            check.status(x, bad, 0, 0);
            for (int i = 0; i < 2; i++) {
                int kept = y.from(i);
                check.due("from(" + i + ") of " + house, x.from(i), kept);
                if (kept == 1) {
                    check.due("digest() from " + i, x.digest(), y.digest());
                }
            }
            check.due("read() of " + house, x.read(), y.read());
            x.house();
            check.due("guest() is the first again", x.guest(0, 0, 0), 0);
        }
    }

    /** "GUESTS 0 .. 6, as they come" */
    private static void guestsAsTheyCome() {
        GuestStaff x = new GuestStaff();
        for (int g = 0; g < 7; g++) {
            check.due("count(0)", x.count(0), g);
            check.due("of(" + g + ", 0) is not there yet", x.of(g, 0), -10);
            check.due("guest", x.guest(g % 6, 7 - g, 255 - g), g);
            check.due("of(" + g + ", 0)", x.of(g, 0), g % 6);
            check.due("of(" + g + ", 1)", x.of(g, 1), 7 - g);
            check.due("of(" + g + ", 2)", x.of(g, 2), 255 - g);
        }
        check.status(x, 7, 0, 0);
    }

    /** "BAD; FULL: 7." */
    private static void anEighthGuest() {
        twins.changeNothing("guest(5, 7, 255)", Houses.EVERYBODY, x -> x.guest(5, 7, 255), -4, Twins.FULL);
        twins.changeNothing("guest(6, 0, 0)", Houses.EVERYBODY, x -> x.guest(6, 0, 0), -2, Twins.BAD);
        GuestStaff x = Houses.ALL_BUT_ONE.made();
        check.due("the 7th", x.guest(0, 0, 0), 6);
        check.due("the 8th", x.guest(0, 0, 0), -4);
        x.house();
        check.due("the first behind house", x.guest(0, 0, 0), 0);
        check.status(x, 0, 0, 1);
    }

    private static void tipsOfTenAtFirst() {
        GuestStaff x = Check.houseOf("house;guest 0 0;guest 0 1 0;duty 1 0;");
        x.hour(4);
        check.due("of(0, 4)", x.of(0, 4), 6);
        check.due("guest", x.guest(0, 2, 0), 2);
        check.due("of(2, 4) of one that comes late", x.of(2, 4), 10);
        check.due("of(0, 4) stays", x.of(0, 4), 6);
        check.due("of(1, 4) stays", x.of(1, 4), 14);
    }

    /** "DUTY of a GUEST: another GUEST for whom one does, or nobody (at first)." */
    private static void dutyOfNobodyAtFirst() {
        GuestStaff x = Houses.ALL_BUT_ONE.made();
        x.guest(0, 0, 255);
        check.due("of(6, 3)", x.of(6, 3), -1);
        check.due("duty(6, 5)", x.duty(6, 5), -1);
        check.due("duty(6, -1)", x.duty(6, -1), 5);
        check.due("duty(6, -1) again", x.duty(6, -1), -1);
        check.due("duty(6, 0)", x.duty(6, 0), -1);
        x.house();
        x.guest(0, 0, 255);
        x.guest(0, 0, 255);
        check.due("of(0, 3) behind house", x.of(0, 3), -1);
    }

    /** "BAD: -10: the own, too." */
    private static void theOwn() {
        for (int g = 0; g < 7; g++) {
            int own = g;
            twins.changeNothing("duty(" + g + ", " + g + ")", Houses.EVERYBODY, x -> x.duty(own, own), -10, Twins.BAD);
        }
        twins.changeNothing("duty(0, 0)", Houses.NOBODY, x -> x.duty(0, 0), -10, Twins.BAD);
        twins.changeNothing("duty(-1, -1)", Houses.SOME, x -> x.duty(-1, -1), -10, Twins.BAD);
    }

    private static void aDutyOneCanNotDo() {
        GuestStaff x = Check.houseOf("house;guest 0 0;guest 0 0;");
        check.due("duty(0, 1)", x.duty(0, 1), -1);
        check.due("of(0, 3)", x.of(0, 3), 1);
        check.due("of(1, 5)", x.of(1, 5), -1);
        check.due("count(3)", x.count(3), 0);
    }

    /** "(150 bytes at most)" */
    private static void bytesOfTheText() {
        GuestStaff x = Houses.ALL_BUT_ONE.made();
        check.due("count(6)", x.count(6), 149);
        check.due("the 150th", x.type(127), 150);
        check.due("the 151st", x.type(127), -4);
        check.due("read(): the 150th is there, no 151st", x.read(), -10 - 149);
        check.due("clear()", x.clear(), 150);
        check.due("the first again", x.type(0), 1);
        check.status(x, 0, 0, 1);
        twins.changeNothing("type(59)", Houses.EVERYBODY, y -> y.type(59), -4, Twins.FULL);
        twins.changeNothing("type(128)", Houses.EVERYBODY, y -> y.type(128), -2, Twins.BAD);
        GuestStaff z = new GuestStaff();
        for (int c = 0; c < 128; c++) {
            check.due("type(" + c + ")", z.type(c), c + 1);
        }
    }

    private static void clearOfNoneAndOfAll() {
        GuestStaff x = Houses.EVERYBODY.made();
        check.due("clear() of all", x.clear(), 150);
        check.due("clear() of none", x.clear(), 0);
        check.due("count(0) stays", x.count(0), 7);
        check.due("type behind it", x.type(' '), 1);
    }

    /** "(the first such one counts: by numbers)": each one of six, as the ones ahead of it leave. */
    private static void theFirstSuchOneCounts() {
        GuestStaff x = new GuestStaff();
        for (int g = 0; g < 7; g++) {
            x.guest(0, 0, 1);
        }
        for (int g = 0; g < 7; g++) {
            x.duty(g, g == 3 ? -1 : 3);
        }
        int[] servers = {0, 1, 2, 4, 5, 6};
        for (int g : servers) {
            check.due("of(3, 5)", x.of(3, 5), g);
            check.due("count(3)", x.count(3), 1);
            x.duty(g, -1);
        }
        check.due("of(3, 5) of none", x.of(3, 5), -1);
        check.due("count(3)", x.count(3), 0);
    }

    /** "One who is not SERVED is CONTENT by 0." */
    private static void notServedIsContentByNothing() {
        for (int kind = 0; kind < 6; kind++) {
            GuestStaff x = new GuestStaff();
            x.guest(kind, 0, 1);
            x.guest(1, 1, 2);
            x.duty(1, 0);
            x.hour(1);
            check.due("of(0, 6) of kind " + kind, x.of(0, 6), 0);
            check.due("count(2)", x.count(2), 0);
            check.due("of(0, 4): no tip is given", x.of(0, 4), 10);
        }
    }

    /** "each who is SERVED gives 1 TIP, if there is one" */
    private static void aTipIfThereIsOne() {
        GuestStaff x = Check.houseOf("house;guest 0 0;guest 0 1 0;duty 1 0;");
        x.hour(9);
        check.due("of(0, 4): the last is left", x.of(0, 4), 1);
        x.hour(1);
        check.due("of(0, 4): it is given", x.of(0, 4), 0);
        check.due("of(1, 4)", x.of(1, 4), 20);
        check.due("hour(1): content as before", x.hour(1), 55);
        check.due("of(0, 4): none is given", x.of(0, 4), 0);
        check.due("of(1, 4)", x.of(1, 4), 20);
    }

    /** By numbers: what comes to one behind in the same hour can be given on, what comes to one ahead can not. */
    private static void tipsGoRound() {
        // 1 serves 0, 2 serves 1, 0 serves 2; nobody gains.
        GuestStaff x = Check.houseOf("house;guest 0 0 2;guest 0 1 0;guest 0 2 1;duty 1 0;duty 2 1;duty 0 2;");
        x.hour(60);
        for (int g = 0; g < 3; g++) {
            check.due("of(" + g + ", 4)", x.of(g, 4), 10);
        }
        // All tips to 6; then each is served by the one behind: only 6 gives, to 5, the last asked.
        x = new GuestStaff();
        for (int g = 0; g < 7; g++) {
            x.guest(0, 0, 1);
        }
        for (int h = 0; h < 6; h++) {
            x.duty(6, h);
            x.hour(10);
        }
        check.due("of(6, 4): all tips there are", x.of(6, 4), 70);
        x.duty(6, -1);
        x.duty(5, 6);
        x.duty(4, 5);
        x.hour(1);
        check.due("of(6, 4)", x.of(6, 4), 69);
        check.due("of(5, 4): 5 was asked ahead of 6", x.of(5, 4), 1);
        check.due("of(4, 4)", x.of(4, 4), 0);
        x.hour(1);
        check.due("of(5, 4)", x.of(5, 4), 1);
        check.due("of(4, 4)", x.of(4, 4), 1);
    }

    /** "how CONTENT all are is added up (MOOD); ... Then the HOUR is one more." */
    private static void contentAheadOfTheHour() {
        GuestStaff x = Check.houseOf("house;guest 3 0;guest 4 1;guest 0 2 0 1;guest 0 2 1;duty 2 0;duty 3 1;");
        int[] due = {3 + 0, 5 + 5, 3 + 5, 5 + 5, 3 + 0};
        int mood = 0;
        for (int hour = 0; hour < due.length; hour++) {
            check.due("count(1)", x.count(1), hour);
            mood += due[hour];
            check.due("hour(1) in " + hour, x.hour(1), mood);
        }
    }

    /** "n HOURS go by (1 .. 60), each of which may be undone" */
    private static void hoursOneAndSixty() {
        GuestStaff x = Check.houseOf("house;guest 0 0;guest 0 1 0;duty 1 0;");
        check.due("hour(1)", x.hour(1), 5);
        check.due("count(5)", x.count(5), 1);
        check.due("hour(60)", x.hour(60), 305);
        check.due("count(1)", x.count(1), 61);
        check.due("count(5)", x.count(5), 8);
        check.due("undo() is of one hour", x.undo(), 60);
        check.due("count(2)", x.count(2), 300);
        GuestStaff nobody = new GuestStaff();
        check.due("hour(60) of nobody", nobody.hour(60), 0);
        check.due("count(1)", nobody.count(1), 60);
        check.due("count(5)", nobody.count(5), 8);
    }

    /** "NO: none may be." */
    private static void noneMayBeUndone() {
        twins.changeNothing("undo()", Houses.NOBODY, GuestStaff::undo, -3, Twins.NO);
        twins.changeNothing("undo()", Houses.ONE, GuestStaff::undo, -3, Twins.NO);
        GuestStaff x = new GuestStaff();
        x.hour(1);
        check.due("undo()", x.undo(), 0);
        check.due("undo() again", x.undo(), -3);
        x.hour(1);
        x.house();
        check.due("undo() behind house", x.undo(), -3);
        x.hour(1);
        Check.read(x, "house;");
        check.due("undo() behind read", x.undo(), -3);
        check.status(x, 0, 3, 0);
    }

    /** "(8 at most": for each number of hours ahead of them, so that they lie round in every way. */
    private static void eightAtMost() {
        for (int ahead = 0; ahead < 20; ahead++) {
            GuestStaff x = Check.houseOf("house;guest 3 0;guest 0 1 0;duty 1 0;");
            for (int i = 0; i < ahead; i++) {
                x.hour(1);
            }
            check.due("count(5)", x.count(5), Math.min(ahead, 8));
            for (int back = 1; back <= Math.min(ahead, 8); back++) {
                int hour = ahead - back;
                check.due("undo()", x.undo(), hour);
                check.due("count(2)", x.count(2), hour / 2 * 8 + hour % 2 * 3);
                check.due("of(0, 4)", x.of(0, 4), Math.max(10 - hour, 0));
                check.due("of(1, 4)", x.of(1, 4), Math.min(10 + hour, 20));
                check.due("count(5)", x.count(5), Math.min(ahead, 8) - back);
            }
            check.due("undo(), no more", x.undo(), -3);
        }
    }

    /** "as ahead of the last HOUR gone by, DUTY told": one at a time, also a DUTY that was so before. */
    private static void undoOfAHourIsNotOfTwo() {
        GuestStaff x = Check.houseOf("house;guest 0 0;guest 0 1 0;duty 1 0;");
        x.hour(2);
        x.duty(1, 0);
        x.duty(1, -1);
        check.due("count(5)", x.count(5), 4);
        check.due("undo() of nobody", x.undo(), 2);
        check.due("of(1, 3)", x.of(1, 3), 0);
        check.due("undo() of the like", x.undo(), 2);
        check.due("of(1, 3)", x.of(1, 3), 0);
        check.due("undo()", x.undo(), 1);
        check.due("count(5)", x.count(5), 1);
        x.hour(1);
        check.due("count(5): what was undone is gone", x.count(5), 2);
        check.due("undo()", x.undo(), 1);
        check.due("undo()", x.undo(), 0);
        check.due("undo()", x.undo(), -3);
    }

    /** "behind a GUEST that comes none may be" */
    private static void behindAGuestNoneMayBe() {
        GuestStaff x = Houses.ALL_BUT_ONE.made();
        check.due("count(5)", x.count(5), 7);
        check.due("guest, refused", x.guest(0, 0, 256), -2);
        check.due("count(5): it did not come", x.count(5), 7);
        check.due("guest", x.guest(0, 0, 255), 6);
        check.due("count(5)", x.count(5), 0);
        check.due("undo()", x.undo(), -3);
        check.due("count(0)", x.count(0), 7);
        x.hour(1);
        check.due("guest, refused", x.guest(0, 0, 0), -4);
        check.due("count(5): it did not come", x.count(5), 1);
        check.due("undo()", x.undo(), 1);
        check.due("count(0)", x.count(0), 7);
    }

    /** "0, if the HOUR by 4 left over is 0"; served all the same. */
    private static void lateByFour() {
        GuestStaff x = Check.houseOf("house;guest 4 0;guest 1 1 0;duty 1 0;");
        int[] due = {0, 8, 8, 8, 0, 8, 8, 8, 0};
        for (int hour = 0; hour < due.length; hour++) {
            check.due("of(0, 6) in " + hour, x.of(0, 6), due[hour]);
            check.due("of(0, 5)", x.of(0, 5), 1);
            check.due("of(0, 4): a tip in each hour", x.of(0, 4), 10 - hour);
            x.hour(1);
        }
    }

    /** "Whether g CAN SERVE h (1, 0)": each service as bits, the first, the last, none and all. */
    private static void canServeByBits() {
        for (int s = 0; s < 8; s++) {
            GuestStaff x = new GuestStaff();
            x.guest(0, s, 0);
            x.guest(0, 0, 1 << s);
            x.guest(0, 0, 255 - (1 << s));
            x.guest(0, 0, 255);
            check.due("can(1, 0) by " + s, x.can(1, 0), 1);
            check.due("can(2, 0) by " + s, x.can(2, 0), 0);
            check.due("can(3, 0) by " + s, x.can(3, 0), 1);
            check.due("can(0, 1): none", x.can(0, 1), 0);
            check.due("can(3, 1): no duty is needed", x.can(3, 1), 1);
            check.status(x, 0, 0, 0);
        }
    }

    /** "BAD: alike, too." */
    private static void alike() {
        for (int g = 0; g < 7; g++) {
            int same = g;
            twins.changeNothing("can(" + g + ", " + g + ")", Houses.EVERYBODY, x -> x.can(same, same), -2, Twins.BAD);
        }
        twins.changeNothing("can(0, 0)", Houses.NOBODY, x -> x.can(0, 0), -2, Twins.BAD);
    }

    /** How much work SERVICES 0 and 7 are, whether one can do them or not. */
    private static void workOfTheFirstAndTheLast() {
        int[] first = {2, 1, 2, 2, 1, 1};
        int[] last = {2, 1, 9, 2, 1, 4};
        GuestStaff x = new GuestStaff();
        for (int kind = 0; kind < 6; kind++) {
            x.guest(kind, 0, kind % 2 * 255);
            check.due("work(" + kind + ", 0)", x.work(kind, 0), first[kind]);
            check.due("work(" + kind + ", 7)", x.work(kind, 7), last[kind]);
        }
        check.due("work(5, 1): half of 3, cut", x.work(5, 1), 1);
    }

    /** Behind seven guests, a house of fewer: those who were there have no part in anything. */
    private static void nobodyOfBefore() {
        for (int n = 0; n < 7; n++) {
            GuestStaff x = new GuestStaff();
            for (int g = 0; g < 7; g++) {
                x.guest(2, 0, 255);
            }
            for (int g = 0; g < 7; g++) {
                x.duty(g, g == n ? (n + 1) % 7 : n);
            }
            x.house();
            GuestStaff y = new GuestStaff();
            for (int g = 0; g < n; g++) {
                x.guest(g % 6, g, 255);
                y.guest(g % 6, g, 255);
            }
            x.hour(5);
            y.hour(5);
            x.moods(10);
            y.moods(10);
            check.due("takeIn(255) of " + n, x.takeIn(255), y.takeIn(255));
            check.holds("a house of " + n + " is as if it were the first", Twins.tell(x).equals(Twins.tell(y)));
        }
    }

    /** "An object is used for at most 512 calls": as many hours as they can be. */
    private static void theLastCallOf512() {
        GuestStaff x = new GuestStaff();
        for (int g = 0; g < 7; g++) {
            x.guest(2, 0, 1);
        }
        for (int g = 0; g < 7; g++) {
            x.duty(g, (g + 1) % 7);
        }
        for (int i = 15; i < 511; i++) {
            x.hour(60);
        }
        check.due("the 511th call", x.hour(60), 497 * 60 * 70);
        check.due("the 512th call", x.count(1), 497 * 60);
    }
}
