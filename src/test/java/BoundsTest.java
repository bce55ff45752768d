import java.util.ArrayList;
import java.util.List;
import java.util.TreeSet;

/**
 * Every number that a call is given: the first and the last that are taken, and on each side the first that is
 * refused, in houses from nobody to everybody. What is refused changes nothing but STATUS.
 */
public final class BoundsTest {
    private static final Check check = new Check("BoundsTest");
    private static final Twins twins = new Twins(check);
    private static final int NEVER = 0, MOST = Integer.MAX_VALUE, LEAST = Integer.MIN_VALUE;

    interface Asked {
        long of(GuestStaff x, int number);
    }

    /**
     * @param bad what is answered, where the number is not as told
     * @param full what is answered by a house of EVERYBODY, where the number is as told; NEVER: it is taken there, too
     */
    record Bound(int promise, String name, Asked asked, int first, int last, int bad, int full) {
        String with(int number) {
            return promise + " " + name.replace("#", Integer.toString(number));
        }
    }

    public static void main(String[] args) {
        TreeSet<Integer> promises = new TreeSet<>();
        for (Houses house : Houses.values()) {
            List<Bound> bounds = new ArrayList<>();
            aHouse(bounds);
            ofGuests(bounds, house.guests());
            ofTwoGuests(bounds, house.guests());
            wants(bounds, house.guests());
            whatThereIs(bounds);
            for (Bound bound : bounds) {
                look(bound, house);
                promises.add(bound.promise);
            }
        }
        // All but those whose calls are given no number: 1, 2, 6, 7, 9, 14, 16, 18, 22, 34.
        check.due("promises that have bounds", promises.size(), 34 - 10);
        check.finish();
    }

    private static void look(Bound bound, Houses house) {
        if (bound.first <= bound.last) {
            taken(bound, house, bound.first);
            taken(bound, house, bound.last);
        }
        refused(bound, house, bound.first - 1);
        if (bound.last < MOST) {
            refused(bound, house, bound.last + 1);
            refused(bound, house, MOST);
        }
        refused(bound, house, LEAST);
    }

    private static void taken(Bound bound, Houses house, int number) {
        if (bound.full != NEVER && house == Houses.EVERYBODY) {
            int reason = bound.full == GuestStaff.NO ? Twins.NO : Twins.FULL;
            twins.changeNothing(bound.with(number), house, x -> bound.asked.of(x, number), bound.full, reason);
            return;
        }
        GuestStaff x = house.made();
        int[] before = {x.status(0), x.status(1), x.status(2)};
        long answer = bound.asked.of(x, number);
        check.holds(bound.with(number) + " of " + house + " is taken: " + answer, answer != bound.bad);
        check.status(x, before[0], before[1], before[2]);
    }

    private static void refused(Bound bound, Houses house, int number) {
        twins.changeNothing(bound.with(number), house, x -> bound.asked.of(x, number), bound.bad, Twins.BAD);
    }

    private static void aHouse(List<Bound> bounds) {
        bounds.add(new Bound(3, "guest(#, 0, 0)", (x, a) -> x.guest(a, 0, 0), 0, 5, -2, -4));
        bounds.add(new Bound(3, "guest(0, #, 0)", (x, a) -> x.guest(0, a, 0), 0, 7, -2, -4));
        bounds.add(new Bound(3, "guest(0, 0, #)", (x, a) -> x.guest(0, 0, a), 0, 255, -2, -4));
        bounds.add(new Bound(5, "type(#)", (x, a) -> x.type(a), 0, 127, -2, -4));
        bounds.add(new Bound(8, "hour(#)", (x, a) -> x.hour(a), 1, 60, -2, NEVER));
        bounds.add(new Bound(20, "takeIn(#)", (x, a) -> x.takeIn(a), 0, 255, -2, -3));
        bounds.add(new Bound(19, "swap(#)", (x, a) -> x.swap(a), -1, MOST, -10, NEVER));
        bounds.add(new Bound(27, "moods(#)", (x, a) -> x.moods(a), 0, 10, -2, NEVER));
        bounds.add(new Bound(28, "hours(#, 3)", (x, a) -> x.hours(a, 3), 0, 999999, -2, NEVER));
        bounds.add(new Bound(28, "hours(3, #)", (x, a) -> x.hours(3, a), 0, 60, -2, NEVER));
    }

    /** Of a house of nobody every number is refused: the last guest is -1 then. */
    private static void ofGuests(List<Bound> bounds, int guests) {
        int last = guests - 1;
        bounds.add(new Bound(4, "duty(#, -1)", (x, a) -> x.duty(a, -1), 0, last, -10, NEVER));
        bounds.add(new Bound(10, "of(#, 3)", (x, a) -> x.of(a, 3), 0, last, -10, NEVER));
        bounds.add(new Bound(12, "work(#, 7)", (x, a) -> x.work(a, 7), 0, last, -2, NEVER));
        bounds.add(new Bound(13, "all(#)", (x, a) -> x.all(a), -1, last, -10, NEVER));
        bounds.add(new Bound(15, "most(#)", (x, a) -> x.most(a), -1, last, -10, NEVER));
        bounds.add(new Bound(17, "rings(#)", (x, a) -> x.rings(a), -1, last, -10, NEVER));
        if (guests > 0) {
            bounds.add(new Bound(10, "of(0, #)", (x, a) -> x.of(0, a), 0, 6, -10, NEVER));
            bounds.add(new Bound(12, "work(0, #)", (x, a) -> x.work(0, a), 0, 7, -2, NEVER));
        }
    }

    /** The own is refused beside the first and beside the last guest; of a house of one all but nobody is. */
    private static void ofTwoGuests(List<Bound> bounds, int guests) {
        int last = guests - 1;
        if (guests > 0) {
            bounds.add(new Bound(4, "duty(last, #)", (x, a) -> x.duty(last, a), -1, last - 1, -10, NEVER));
        }
        bounds.add(new Bound(11, "can(0, #)", (x, a) -> x.can(0, a), 1, Math.max(last, 0), -2, NEVER));
        bounds.add(new Bound(11, "can(#, 0)", (x, a) -> x.can(a, 0), 1, Math.max(last, 0), -2, NEVER));
        bounds.add(new Bound(11, "can(last, #)", (x, a) -> x.can(last, a), 0, last - 1, -2, NEVER));
        bounds.add(new Bound(11, "can(#, last)", (x, a) -> x.can(a, last), 0, last - 1, -2, NEVER));
    }

    private static void wants(List<Bound> bounds, int guests) {
        int last = guests - 1;
        bounds.add(new Bound(21, "note(#, 0, 0, 0, 0)", (x, a) -> x.note(a, 0, 0, 0, 0), 0, last, -2, -4));
        bounds.add(new Bound(23, "wants(#)", (x, a) -> x.wants(a), 0, last, -2, NEVER));
        bounds.add(new Bound(24, "is(#)", (x, a) -> x.is(a), 0, last, -2, NEVER));
        bounds.add(new Bound(25, "next(#)", (x, a) -> x.next(a), 0, last, -2, NEVER));
        bounds.add(new Bound(26, "tips(#, 60)", (x, a) -> x.tips(a, 60), 0, last, -2, NEVER));
        if (guests > 0) {
            bounds.add(new Bound(21, "note(0, #, 0, 0, 0)", (x, a) -> x.note(0, a, 0, 0, 0), 0, 5, -2, -4));
            bounds.add(new Bound(21, "note(0, 0, #, 0, 0)", (x, a) -> x.note(0, 0, a, 0, 0), 0, 7, -2, -4));
            bounds.add(new Bound(21, "note(0, 0, 0, #, 0)", (x, a) -> x.note(0, 0, 0, a, 0), 0, 99, -2, -4));
            bounds.add(new Bound(21, "note(0, 0, 0, 0, #)", (x, a) -> x.note(0, 0, 0, 0, a), 0, 30, -2, -4));
            bounds.add(new Bound(26, "tips(0, #)", (x, a) -> x.tips(0, a), 0, 60, -2, NEVER));
        }
    }

    private static void whatThereIs(List<Bound> bounds) {
        bounds.add(new Bound(29, "part(#)", (x, a) -> x.part(a), 0, 1, -2, NEVER));
        bounds.add(new Bound(30, "image(#)", (x, a) -> x.image(a), 0, 1, -2, NEVER));
        // Both are kept first, so that none is refused as NO.
        bounds.add(new Bound(31, "from(#)", (x, a) -> a == 0 || a == 1 ? x.image(a) * x.from(a) : x.from(a), 0, 1, -2, NEVER));
        bounds.add(new Bound(32, "status(#)", (x, a) -> x.status(a), 0, 2, -1, NEVER));
        bounds.add(new Bound(33, "count(#)", (x, a) -> x.count(a), 0, 6, -2, NEVER));
    }
}
