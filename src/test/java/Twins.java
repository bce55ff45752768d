import java.util.ArrayList;
import java.util.List;

/**
 * Two objects made alike: one is asked something that must change nothing, the other is not. Then both tell all
 * that can be asked of them, also what only later calls show: the pasts, the images, the text.
 */
final class Twins {
    static final int COUNTED_NOT = -1, BAD = 0, NO = 1, FULL = 2;

    interface Call {
        long on(GuestStaff x);
    }

    private final Check check;

    Twins(Check check) {
        this.check = check;
    }

    /** The call answers so, is counted in STATUS by that reason alone, and changes nothing else. */
    void changeNothing(String name, Houses house, Call call, long answer, int reason) {
        GuestStaff asked = house.made();
        String where = name + " of " + house;
        check.due(where, call.on(asked), answer);
        alike(where, asked, house.made(), reason);
    }

    void alike(String where, GuestStaff asked, GuestStaff other, int reason) {
        for (int what = 0; what < 3; what++) {
            int due = other.status(what) + (what == reason ? 1 : 0);
            check.due("status(" + what + ") behind " + where, asked.status(what), due);
        }
        check.holds("nothing but STATUS is changed by " + where, tell(asked).equals(tell(other)));
    }

    /** Some 200 calls. */
    static List<Long> tell(GuestStaff x) {
        List<Long> told = new ArrayList<>();
        tellNow(x, told);
        tellPast(x, told);
        for (int i = 0; i < 2; i++) {
            told.add((long) x.from(i));
            told.add(x.digest());
            tellPast(x, told);
        }
        told.add((long) x.read());
        told.add(x.digest());
        told.add((long) x.clear());
        return told;
    }

    private static void tellNow(GuestStaff x, List<Long> told) {
        told.add(x.digest());
        told.add(x.part(0));
        told.add(x.part(1));
        int[] answers = {x.all(-1), x.least(), x.most(-1), x.lone(), x.rings(-1), x.smallest(), x.swap(-1), x.hours(7, 9)};
        for (int answer : answers) {
            told.add((long) answer);
        }
        for (int g = 0; g < x.count(0); g++) {
            for (int what = 0; what < 7; what++) {
                told.add((long) x.of(g, what));
            }
            told.add((long) x.wants(g));
            told.add((long) x.is(g));
            told.add((long) x.tips(g, 30));
        }
    }

    private static void tellPast(GuestStaff x, List<Long> told) {
        for (int i = 0; i < 9 && x.count(5) > 0; i++) {
            told.add((long) x.undo());
            told.add(x.digest());
        }
    }
}
