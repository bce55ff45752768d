/**
 * Promise 7, what a TEXT must be: for each sentence about it the last text that is taken and the first that is
 * refused, with the place of the FAULT. A FAULT changes nothing, and is not counted in STATUS.
 */
public final class FaultsTest {
    private static final Check check = new Check("FaultsTest");
    private static final Twins twins = new Twins(check);
    private static final String SEVEN = "house;" + "guest 0 0;".repeat(7);
    private static final String TWO = "house;guest 0 0;guest 0 0;";

    public static void main(String[] args) {
        bytesAtMost();
        endedByStop();
        houseOnceFirstOfAll();
        guestItems();
        dutyItems();
        words();
        figures();
        blanksBetween();
        wordThatIsNone();
        houseAgain();
        anythingAheadOfIt();
        eighthGuest();
        thirdFigure();
        numbersNotAsTold();
        guestNotThereYet();
        bothAlike();
        byteThatBeginsNone();
        endsTooEarly();
        emptyText();
        everyBeginning();
        firstOfTwoFaults();
        check.finish();
    }

    private static GuestStaff typed(String text) {
        GuestStaff x = Houses.SOME.made();
        Check.write(x, text);
        check.due("count(6) behind '" + text + "'", x.count(6), text.length());
        return x;
    }

    private static void fault(String text, int place) {
        GuestStaff asked = typed(text);
        String where = "read() of '" + text + "'";
        check.due(where, asked.read(), -10 - place);
        check.due(where + " again", asked.read(), -10 - place);
        twins.alike(where, asked, typed(text), Twins.COUNTED_NOT);
    }

    private static GuestStaff good(String text, int items) {
        GuestStaff x = typed(text);
        check.due("read() of '" + text + "'", x.read(), items);
        check.counts("read() of '" + text + "'", x, x.count(0), 0, 0, x.count(3), 0, 0, text.length());
        return x;
    }

    private static void bytesAtMost() {
        String filled = "house;guest 0 0" + " ".repeat(134);
        good(filled + ";", 2);
        fault(filled + "g", 149);
        fault(filled + " ", 150);
        fault("house;" + " ".repeat(143) + "1", 149);
        good("house;" + " ".repeat(144), 1);
        good(" ".repeat(144) + "house;", 1);
        fault(" ".repeat(145) + "house", 150);
        fault(" ".repeat(150), 150);
        // As many items as there is room for: the 16th duty would be cut off.
        String most = "house;guest0 0;guest0 0;" + "duty0 1;".repeat(15);
        good(most, 18);
        fault(most + "duty0 ", 150);
    }

    private static void endedByStop() {
        good("house;", 1);
        fault("house", 5);
        good("house;guest 0 0;", 2);
        fault("house;guest 0 0", 15);
        fault("house;guest 0 0 guest 0 0;", 16);
        fault("house guest 0 0;", 6);
        good(TWO + "duty 0 1;", 4);
        fault(TWO + "duty 0 1", 34);
        fault(TWO + "duty 0 1 duty 1 0;", 35);
        fault("house;;", 6);
        fault("house;guest 0 0;;", 16);
    }

    private static void houseOnceFirstOfAll() {
        GuestStaff x = good("house;", 1);
        check.due("count(0) of house alone", x.count(0), 0);
        fault("house 0;", 6);
        fault("house house;", 6);
    }

    private static void guestItems() {
        check.due("can do none", good("house;guest 0 0;", 2).of(0, 2), 0);
        check.due("can do the first", good("house;guest 0 0 0;", 2).of(0, 2), 1);
        check.due("can do the last", good("house;guest 0 0 7;", 2).of(0, 2), 128);
        check.due("can do all", good("house;guest 0 0 7 6 5 4 3 2 1 0;", 2).of(0, 2), 255);
        check.due("told twice", good("house;guest 0 0 3 3;", 2).of(0, 2), 8);
        check.due("more than eight", good("house;guest 0 0 1 1 1 1 1 1 1 1 1 2;", 2).of(0, 2), 6);
        fault("house;guest;", 11);
        fault("house;guest 0;", 13);
        fault("house;guest 0 0 duty;", 16);
    }

    private static void dutyItems() {
        GuestStaff x = good(TWO + "duty 0 1;", 4);
        check.due("of(0, 3)", x.of(0, 3), 1);
        check.due("of(1, 3): nobody at first", x.of(1, 3), -1);
        check.due("of(0, 3): told again", good("house;guest 0 0;guest 0 0;guest 0 0;duty 0 1;duty 0 2;", 6).of(0, 3), 2);
        fault(TWO + "duty;", 30);
        fault(TWO + "duty 0;", 32);
        fault(TWO + "duty 0 1 1;", 35);
        fault(TWO + "duty 0 -1;", 33);
    }

    private static void words() {
        // Next to a and z.
        fault("house`;", 5);
        fault("house{;", 5);
        fault("housea;", 0);
        fault("housez;", 0);
        fault("HOUSE;", 0);
        fault("hOuse;", 0);
    }

    private static void figures() {
        // Next to 0 and 9.
        fault("house;guest 0 /;", 14);
        fault("house;guest 0 :;", 14);
        fault("house;guest 0 9;", 14);
        check.due("one figure", good("house;guest 5 7;", 2).of(0, 1), 7);
        check.due("two figures", good("house;guest 05 07;", 2).of(0, 1), 7);
        check.due("two figures of nothing", good("house;guest 00 00 00;", 2).of(0, 2), 1);
        check.due("two figures of a duty", good(TWO + "duty 01 00;", 4).of(1, 3), 0);
    }

    private static void blanksBetween() {
        good("   house   ;   guest   0   0   ;   ", 2);
        GuestStaff x = good("house;guest1 2 3;guest2 3;duty0 1;", 4);
        check.due("no blank is needed between unlike tokens", x.of(0, 0) * 10 + x.of(0, 1), 12);
        fault("house;guestguest 0 0;", 6);
        check.due("two figures side by side are one number", good("house;guest 0 0 07;", 2).of(0, 2), 128);
        int[] none = {0, 9, 10, 13, 31, 33};
        for (int c : none) {
            fault("house" + (char) c + ";", 5);
        }
        fault("ho use;", 0);
    }

    private static void wordThatIsNone() {
        fault("hous;", 0);
        fault("houses;", 0);
        fault("mouse;", 0);
        fault("housf;", 0);
        fault("a;", 0);
        fault("house;gues 0 0;", 6);
        fault("house;guests 0 0;", 6);
        fault("house;quest 0 0;", 6);
        fault("house;guess 0 0;", 6);
        fault("house; z;", 7);
        fault(TWO + "buty 0 1;", 26);
        fault(TWO + "duts 0 1;", 26);
        fault(TWO + "dut 0 1;", 26);
        fault(TWO + "dutys 0 1;", 26);
        fault("house;guest a 0;", 12);
        fault("house;guest 0 0 z", 16);
    }

    private static void houseAgain() {
        fault("house;house;", 6);
        fault("house;guest 0 0; house;", 17);
        fault("house; house", 7);
    }

    private static void anythingAheadOfIt() {
        fault("guest 0 0;house;", 0);
        fault("duty 0 1;", 0);
        fault("  ;house;", 2);
        fault(" 1 house;", 1);
        fault("-house;", 0);
    }

    private static void eighthGuest() {
        GuestStaff x = good(SEVEN, 8);
        check.due("count(0)", x.count(0), 7);
        good(SEVEN + "duty 6 5;", 9);
        fault(SEVEN + "guest 0 0;", 76);
        fault(SEVEN + "  guest", 78);
        fault(SEVEN + "duty 6 5; guest 9;", 86);
        fault(SEVEN + "guests", 76);
    }

    private static void thirdFigure() {
        fault("house;guest 000 0;", 12);
        fault("house;guest 0 007;", 14);
        fault("house;guest 0 0 001;", 16);
        fault("house;guest 0 0 1 0000000000000;", 18);
        fault("house;guest 0 4294967296;", 14);
        fault(TWO + "duty 000 1;", 31);
        fault(TWO + "duty 0 001;", 33);
        fault("house;000;", 6);
    }

    private static void numbersNotAsTold() {
        good("house;guest 5 0;", 2);
        fault("house;guest 6 0;", 12);
        fault("house;guest 10 0;", 12);
        fault("house;guest 99 0;", 12);
        good("house;guest 0 7;", 2);
        fault("house;guest 0 8;", 14);
        fault("house;guest 0 10;", 14);
        good("house;guest 0 0 7;", 2);
        fault("house;guest 0 0 8;", 16);
        fault("house;guest 0 0 7 08;", 18);
        fault("house;guest 0 0 7 09;", 18);
        fault("house;guest 0 0 7 19;", 18);
        fault("house;guest 0 0 7 90;", 18);
        fault("house;guest 0 0 16", 16);
        fault("house;1;", 6);
    }

    private static void guestNotThereYet() {
        fault("house;duty 0 1;", 11);
        fault("house;guest 0 0;duty 0 1;guest 0 0;", 23);
        fault("house;guest 0 0;duty 1 0;guest 0 0;", 21);
        fault(TWO + "duty 2 0;", 31);
        fault(TWO + "duty 0 2;", 33);
        good(TWO + "duty 1 0;", 4);
        good(SEVEN + "duty 6 0;duty 0 6;", 10);
        fault(SEVEN + "duty 7 0;", 81);
        fault(SEVEN + "duty 0 7;", 83);
        fault(SEVEN + "duty 0 10;", 83);
    }

    private static void bothAlike() {
        fault(TWO + "duty 0 0;", 33);
        fault(TWO + "duty 1 01;", 33);
        fault("house;guest 0 0;duty 0 0;", 23);
        fault(SEVEN + "duty 6 6;", 83);
    }

    /** Every byte 0 .. 127 where a token begins: all that begin none are a FAULT at their own place. */
    private static void byteThatBeginsNone() {
        for (int c = 0; c < 128; c++) {
            String text = "house; " + (char) c;
            if (c == ' ') {
                good(text, 1);
            } else {
                fault(text, 7);
            }
            if (c != ' ' && c != ';' && !(c >= '0' && c <= '9')) {
                fault("house;guest 0 0" + (char) c + ";", 15);
            }
        }
    }

    private static void endsTooEarly() {
        fault("house", 5);
        fault("house  ", 7);
        fault("house;guest", 11);
        fault("house;guest 0", 13);
        fault("house;guest 0 ", 14);
        fault("house;guest 0 0", 15);
        fault("house;guest 0 0 1 ", 18);
        fault(TWO + "duty", 30);
        fault(TWO + "duty 0", 32);
        fault(TWO + "duty 0 1", 34);
    }

    private static void emptyText() {
        fault("", 0);
        fault(" ", 1);
        GuestStaff x = new GuestStaff();
        check.due("read() of a new object", x.read(), -10);
        Check.write(x, "house;");
        x.clear();
        check.due("read() behind clear", x.read(), -10);
    }

    /** The places where each beginning of the text has its FAULT, by hand; 1 .. 4: so many items are good. */
    private static void everyBeginning() {
        String text = "house;guest 5 7 1;guest 0 1;duty 0 1;";
        int[] due = {-10, -10, -10, -10, -10, -15, 1,
            -16, -16, -16, -16, -21, -22, -23, -24, -25, -26, -27, 2,
            -28, -28, -28, -28, -33, -34, -35, -36, -37, 3,
            -38, -38, -38, -42, -43, -44, -45, -46, 4};
        check.due("beginnings", due.length, text.length() + 1);
        for (int length = 0; length <= text.length(); length++) {
            String some = text.substring(0, length);
            if (due[length] > 0) {
                good(some, due[length]);
            } else {
                fault(some, -10 - due[length]);
            }
        }
    }

    private static void firstOfTwoFaults() {
        fault("house;guest 9 9;!", 12);
        fault("house;guest 0 9;house", 14);
        fault(TWO + "duty 5 5", 31);
        fault("Z" + " house", 0);
    }
}
