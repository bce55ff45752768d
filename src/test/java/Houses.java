/** Houses in which the edges are looked at: nobody, one, some, and all that there is room for. */
enum Houses {
    NOBODY, ONE, SOME, ALL_BUT_ONE, EVERYBODY;

    static final String RING_OF_SEVEN =
        "house;guest 0 0 1;guest 1 1 2;guest 2 2 3;guest 3 3 4;guest 4 4 5;guest 5 5 6;guest 1 6 0;";

    /** A new object, the same for every call; by far fewer than 512 calls. */
    GuestStaff made() {
        return switch (this) {
            case NOBODY -> new GuestStaff();
            case ONE -> Check.houseOf("house;guest 4 7 7;");
            case SOME -> some();
            case ALL_BUT_ONE -> allButOne();
            case EVERYBODY -> everybody();
        };
    }

    int guests() {
        return switch (this) {
            case NOBODY -> 0;
            case ONE -> 1;
            case SOME -> 3;
            case ALL_BUT_ONE -> 6;
            case EVERYBODY -> 7;
        };
    }

    private static GuestStaff some() {
        GuestStaff x = Check.houseOf("house;guest 3 0 1;guest 1 1 0 2;guest 5 2 1;");
        x.hour(2);
        x.duty(1, 0);
        x.image(0);
        x.duty(0, 1);
        x.hour(3);
        x.note(1, 1, 4, 3, 8);
        x.note(2, 0, 3, 4, 0);
        x.moods(3);
        Check.write(x, "house;guest 2 5 5;");
        return x;
    }

    /** There is room for one more of each. */
    private static GuestStaff allButOne() {
        GuestStaff x = new GuestStaff();
        for (int g = 0; g < 6; g++) {
            x.guest(5 - g, g, 255 - g);
        }
        for (int g = 0; g < 6; g++) {
            x.duty(g, (g + 1) % 6);
        }
        x.hour(1);
        for (int i = 0; i < 5; i++) {
            x.note(i, i, 7 - i, 5 * i, 0);
        }
        for (int i = 0; i < 149; i++) {
            x.type("house; ".charAt(Math.min(i, 6)));
        }
        return x;
    }

    /** There is no room for another guest, note or byte; 8 may be undone, and both images are kept. */
    private static GuestStaff everybody() {
        GuestStaff x = Check.houseOf(RING_OF_SEVEN);
        x.image(1);
        x.duty(0, 1);
        x.duty(1, 2);
        x.hour(60);
        x.image(0);
        x.duty(6, 0);
        x.duty(5, 6);
        x.duty(4, 6);
        x.moods(7);
        for (int i = 0; i < 6; i++) {
            x.note(i, i, i, i, 0);
        }
        for (int i = 0; i < 150; i++) {
            x.type("house; ".charAt(Math.min(i, 6)));
        }
        return x;
    }
}
