import java.util.List;

/**
 * The edges of promises 29 to 34 that are no mere bounds of a number: images of nothing and of everything, none kept,
 * kept again; what STATUS counts and what it does not; the digest of nobody. Each test bears a sentence of the document.
 */
public final class KeptEdgesTest {
    private static final Check check = new Check("KeptEdgesTest");
    private static final Twins twins = new Twins(check);

    public static void main(String[] args) {
        nothingByOneAtFirst();
        noneWasKept();
        imageOfEveryHouse();
        imageChangesNothing();
        twoImagesApart();
        keptAgain();
        allButTheTextTheFractionAndStatus();
        whatMayBeUndoneTheyKeep();
        fromIsNotUndone();
        eachRefusedByItsReason();
        badAheadOfNoAheadOfFull();
        answersThatAreNoRefusals();
        anotherWhat();
        countsOfNobodyAndOfEverybody();
        digestOfNobody();
        digestValueByValue();
        digestGoesRound();
        check.finish();
    }

    /** "THE FRACTION is 0 by 1 at first" */
    private static void nothingByOneAtFirst() {
        GuestStaff x = new GuestStaff();
        check.fraction("new", x, 0, 1);
        x.moods(11);
        x.moods(-1);
        check.fraction("refused moods", x, 0, 1);
        twins.changeNothing("part(2)", Houses.SOME, y -> y.part(2), -2, Twins.BAD);
        twins.changeNothing("part(-1)", Houses.SOME, y -> y.part(-1), -2, Twins.BAD);
    }

    /** "BAD; NO: none was kept." */
    private static void noneWasKept() {
        twins.changeNothing("from(0)", Houses.NOBODY, x -> x.from(0), -3, Twins.NO);
        twins.changeNothing("from(1)", Houses.NOBODY, x -> x.from(1), -3, Twins.NO);
        twins.changeNothing("from(1)", Houses.SOME, x -> x.from(1), -3, Twins.NO);
        twins.changeNothing("from(2)", Houses.NOBODY, x -> x.from(2), -2, Twins.BAD);
        twins.changeNothing("from(-1)", Houses.NOBODY, x -> x.from(-1), -2, Twins.BAD);
        GuestStaff x = new GuestStaff();
        x.image(2);
        x.image(-1);
        check.due("from(0) behind images that were refused", x.from(0), -3);
        x.image(1);
        check.due("from(0): the other was kept", x.from(0), -3);
        check.due("from(1)", x.from(1), 1);
        x.house();
        check.due("from(1) behind house", x.from(1), 1);
        Check.read(x, "house;");
        check.due("from(1) behind read", x.from(1), 1);
    }

    private static void imageOfEveryHouse() {
        for (Houses house : Houses.values()) {
            for (int i = 0; i < 2; i++) {
                GuestStaff x = house.made();
                long before = x.digest();
                check.due("image(" + i + ") of " + house, x.image(i), 1);
                x.hour(60);
                x.house();
                x.guest(5, 5, 5);
                for (int k = 0; k < 6; k++) {
                    x.note(0, 5, 5, 5, 5);
                }
                check.due("from(" + i + ") of " + house, x.from(i), 1);
                check.due("digest() of " + house, x.digest(), before);
            }
        }
    }

    /** An image takes nothing away: but for the image itself all is told as before. */
    private static void imageChangesNothing() {
        for (Houses house : Houses.values()) {
            GuestStaff x = house.made();
            GuestStaff y = house.made();
            x.image(0);
            x.image(1);
            check.due("digest() of " + house, x.digest(), y.digest());
            while (y.count(5) > 0) {
                check.due("undo() of " + house, x.undo(), y.undo());
                check.due("digest() of " + house, x.digest(), y.digest());
            }
            check.due("undo() of " + house, x.undo(), -3);
        }
    }

    private static void twoImagesApart() {
        GuestStaff x = new GuestStaff();
        x.image(0);
        x.guest(0, 0, 1);
        x.image(1);
        x.guest(0, 0, 1);
        x.from(0);
        check.due("count(0) of the first", x.count(0), 0);
        x.from(1);
        check.due("count(0) of the second", x.count(0), 1);
        x.guest(1, 1, 1);
        x.note(1, 1, 1, 1, 1);
        x.from(1);
        check.due("count(0): it goes on apart from the image", x.count(0), 1);
        check.due("count(4)", x.count(4), 0);
    }

    private static void keptAgain() {
        GuestStaff x = Houses.EVERYBODY.made();
        x.image(0);
        x.house();
        check.due("image(0) of nobody", x.image(0), 1);
        x.from(1);
        check.due("count(0) of the other", x.count(0), 7);
        x.from(0);
        check.due("count(0): the newer", x.count(0), 0);
        check.due("count(5)", x.count(5), 0);
    }

    /** "IMAGES 0, 1 keep all but them, THE TEXT, THE FRACTION and STATUS" */
    private static void allButTheTextTheFractionAndStatus() {
        GuestStaff x = Houses.SOME.made();
        x.image(1);
        x.clear();
        Check.write(x, "house;guest 4 4;");
        x.moods(10);
        x.part(9);
        x.from(0);
        x.image(0);
        x.from(1);
        check.due("count(6): the text stays", x.count(6), 16);
        check.fraction("from(1)", x, 2, 1);
        check.status(x, 1, 0, 0);
        check.due("read(): the text that is", x.read(), 2);
        check.due("of(0, 0)", x.of(0, 0), 4);
        check.due("from(0): no image goes back", x.from(0), 1);
        check.due("count(1): as when it was kept again", x.count(1), 2);
    }

    /** "what may be undone they keep": none, some, eight. */
    private static void whatMayBeUndoneTheyKeep() {
        for (int n = 0; n <= 10; n++) {
            GuestStaff x = Check.houseOf("house;guest 3 0;guest 0 1 0;duty 1 0;");
            for (int i = 0; i < n; i++) {
                x.hour(1);
            }
            x.image(0);
            x.duty(1, -1);
            x.duty(0, 1);
            x.hour(20);
            x.from(0);
            check.due("count(5) of " + n, x.count(5), Math.min(n, 8));
            for (int hour = n - 1; hour >= Math.max(n - 8, 0); hour--) {
                check.due("undo() of " + n, x.undo(), hour);
                check.due("count(2)", x.count(2), hour / 2 * 8 + hour % 2 * 3);
                check.due("of(1, 3)", x.of(1, 3), 0);
                check.due("of(0, 4)", x.of(0, 4), Math.max(10 - hour, 0));
                check.due("of(1, 4)", x.of(1, 4), Math.min(10 + hour, 20));
            }
            check.due("undo() of " + n + ", no more", x.undo(), -3);
            x.from(0);
            check.due("count(5): the image has them still", x.count(5), Math.min(n, 8));
        }
    }

    /** What may be undone behind 'from' is the image's, not the way to it. */
    private static void fromIsNotUndone() {
        GuestStaff x = new GuestStaff();
        x.image(0);
        x.hour(5);
        x.from(0);
        check.due("count(5)", x.count(5), 0);
        check.due("undo()", x.undo(), -3);
    }

    /** "how many calls were refused as BAD, NO, FULL" */
    private static void eachRefusedByItsReason() {
        GuestStaff x = Houses.EVERYBODY.made();
        x.status(0);
        check.status(x, 0, 0, 0);
        int bad = 0;
        int[] tens = {x.duty(9, 9), x.of(0, 7), x.all(9), x.most(9), x.rings(9), x.swap(-9)};
        for (int answer : tens) {
            check.due("an answer that counts as BAD", answer, -10);
            bad++;
        }
        check.status(x, bad, 0, 0);
        int[] twos = {x.guest(9, 9, 9), x.type(-9), x.hour(0), x.can(0, 0), x.work(0, 9), x.takeIn(-9),
            x.note(9, 9, 9, 9, 9), x.wants(9), x.is(9), x.next(9), x.tips(9, 9), x.moods(99), x.hours(-9, -9),
            (int) x.part(9), x.image(9), x.from(9), x.count(9)};
        for (int answer : twos) {
            check.due("BAD", answer, -2);
            bad++;
        }
        check.status(x, bad, 0, 0);
        int[] fours = {x.guest(0, 0, 0), x.type(0), x.note(0, 0, 0, 0, 0)};
        for (int answer : fours) {
            check.due("FULL", answer, -4);
        }
        check.status(x, bad, 0, 3);
        check.due("NO", x.takeIn(0), -3);
        while (x.count(5) > 0) {
            x.undo();
        }
        check.due("NO", x.undo(), -3);
        check.due("NO", new GuestStaff().from(0), -3);
        check.status(x, bad, 2, 3);
    }

    /** "the first of: BAD ..; NO ..; FULL": where two are so, the one ahead is answered and counted alone. */
    private static void badAheadOfNoAheadOfFull() {
        twins.changeNothing("takeIn(-1)", Houses.EVERYBODY, x -> x.takeIn(-1), -2, Twins.BAD);
        twins.changeNothing("guest(0, 8, 0)", Houses.EVERYBODY, x -> x.guest(0, 8, 0), -2, Twins.BAD);
        twins.changeNothing("type(-1)", Houses.EVERYBODY, x -> x.type(-1), -2, Twins.BAD);
        twins.changeNothing("note(0, 0, 0, 0, 31)", Houses.EVERYBODY, x -> x.note(0, 0, 0, 0, 31), -2, Twins.BAD);
        // Several numbers that are not as told are one refused call.
        twins.changeNothing("guest(-1, -1, -1)", Houses.SOME, x -> x.guest(-1, -1, -1), -2, Twins.BAD);
        twins.changeNothing("note(-1, 6, 8, 100, 31)", Houses.SOME, x -> x.note(-1, 6, 8, 100, 31), -2, Twins.BAD);
        twins.changeNothing("of(3, 7)", Houses.SOME, x -> x.of(3, 7), -10, Twins.BAD);
        twins.changeNothing("hours(-1, 61)", Houses.SOME, x -> x.hours(-1, 61), -2, Twins.BAD);
    }

    /** "(each answer told so below is such a one)": NONE, swap's -5 and a FAULT are not. */
    private static void answersThatAreNoRefusals() {
        GuestStaff x = Houses.ONE.made();
        List<Integer> answers = List.of(x.all(0), x.least(), x.most(-1), x.most(0), x.smallest(), x.of(0, 3), x.of(0, 5),
            x.duty(0, -1));
        for (int answer : answers) {
            check.due("NONE", answer, -1);
        }
        x.note(0, 0, 0, 0, 30);
        check.due("next(0)", x.next(0), -1);
        check.due("swap(0)", x.swap(0), -5);
        check.due("read(): FAULT 0", x.read(), -10);
        check.status(x, 0, 0, 0);
    }

    /** "-1: another what (counts as BAD)" */
    private static void anotherWhat() {
        int[] others = {-1, 3, 4, Integer.MAX_VALUE, Integer.MIN_VALUE};
        for (int what : others) {
            twins.changeNothing("status(" + what + ")", Houses.SOME, x -> x.status(what), -1, Twins.BAD);
        }
        GuestStaff x = new GuestStaff();
        x.status(3);
        check.due("status(0) tells it", x.status(0), 1);
        check.due("status(0) itself is none", x.status(0), 1);
    }

    private static void countsOfNobodyAndOfEverybody() {
        check.counts("new", new GuestStaff(), 0, 0, 0, 0, 0, 0, 0);
        GuestStaff x = Houses.EVERYBODY.made();
        // 1 and 2 were served for 60 hours, a quiet one by a plain one (5), and a banker (10).
        check.counts("all", x, 7, 60, 60 * 15, 4, 6, 8, 150);
        check.status(x, 0, 0, 0);
    }

    private static long digestOf(long... values) {
        long h = 1097;
        for (long v : values) {
            h = 31 * h + v;
        }
        return h;
    }

    private static void digestOfNobody() {
        GuestStaff x = new GuestStaff();
        long due = digestOf(0, 0, 0, 0, 0, 0, 0, 0, 1);
        check.due("digest() of a new object", x.digest(), due);
        x.guest(9, 9, 9);
        x.undo();
        check.due("digest(): STATUS has no part in it", x.digest(), due);
        x.image(0);
        check.due("digest(): nor have images", x.digest(), due);
        x.type('a');
        check.due("digest(): of the text its length", x.digest(), digestOf(0, 0, 0, 0, 0, 0, 1, 0, 1));
        x.clear();
        x.type('b');
        check.due("digest(): of the text its length", x.digest(), digestOf(0, 0, 0, 0, 0, 0, 1, 0, 1));
        x.clear();
        x.guest(5, 7, 255);
        check.due("digest() of one, DUTY -1", x.digest(), digestOf(1, 0, 0, 0, 0, 0, 0, 5, 7, 255, -1, 10, 0, 1));
        x.house();
        check.due("digest() behind house", x.digest(), due);
    }

    /** Every value has its own place: a house that differs in one of them has another digest. */
    private static void digestValueByValue() {
        String house = "house;guest 3 0 1;guest 1 1 0;duty 0 1;";
        check.due("digest()", Check.houseOf(house).digest(),
            digestOf(2, 0, 0, 1, 0, 0, 0, 3, 0, 2, 1, 10, 1, 1, 1, -1, 10, 0, 1));
        GuestStaff x = Check.houseOf(house);
        x.hour(1);
        check.due("digest() behind an hour", x.digest(),
            digestOf(2, 1, 5, 1, 0, 1, 0, 3, 0, 2, 1, 11, 1, 1, 1, -1, 9, 0, 1));
        x.note(1, 5, 7, 99, 30);
        check.due("digest() behind a note", x.digest(),
            digestOf(2, 1, 5, 1, 1, 1, 0, 3, 0, 2, 1, 11, 1, 1, 1, -1, 9, 1, 5, 7, 99, 30, 0, 1));
        x.moods(9);
        check.due("digest() behind moods", x.digest(),
            digestOf(2, 1, 5, 1, 1, 1, 0, 3, 0, 2, 1, 11, 1, 1, 1, -1, 9, 1, 5, 7, 99, 30, 9, 10));
        x.forget();
        x.undo();
        check.due("digest() behind undo", x.digest(),
            digestOf(2, 0, 0, 1, 0, 0, 0, 3, 0, 2, 1, 10, 1, 1, 1, -1, 10, 9, 10));
    }

    /** All values that there can be: 7 counts, 35 of guests, 30 of notes, 2 of the fraction, far beyond a long. */
    private static void digestGoesRound() {
        GuestStaff x = Houses.EVERYBODY.made();
        java.math.BigInteger h = java.math.BigInteger.valueOf(1097);
        long[] values = new long[74];
        int size = 0;
        for (int what = 0; what < 7; what++) {
            values[size++] = x.count(what);
        }
        for (int g = 0; g < 7; g++) {
            for (int what = 0; what < 5; what++) {
                values[size++] = x.of(g, what);
            }
        }
        for (int i = 0; i < 6; i++) {
            for (int v : new int[] {i, i, i, i, 0}) {
                values[size++] = v;
            }
        }
        values[size++] = x.part(0);
        values[size++] = x.part(1);
        for (long v : values) {
            h = h.multiply(java.math.BigInteger.valueOf(31)).add(java.math.BigInteger.valueOf(v));
        }
        check.due("how many values", size, 74);
        check.due("digest()", x.digest(), h.longValue());
    }
}
