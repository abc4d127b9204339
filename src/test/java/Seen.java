/** All that can be asked of an object, to hold one against its twin. */
final class Seen {
    private static final int STATE = TopStreet.STATE;

    private final TopStreet x;
    private final StringBuilder told = new StringBuilder();

    private Seen(TopStreet x) {
        this.x = x;
    }

    /** What stands now; it changes nothing but status(). Items of rows are told by one who hums them, so 0 to 98. */
    static String of(TopStreet x) {
        Seen one = new Seen(x);
        one.tell("fault", x.fault());
        one.street();
        for (int i = 0; i < 7; i++) {
            one.tell("trace", x.trace(i));
        }
        one.rows();
        return one.told.toString();
    }

    /** That, and what was kept: acts, the tape, images. The object is of no use behind it. */
    static String allOf(TopStreet x) {
        Seen one = new Seen(x);
        one.tell("status", x.status());
        one.told.append(of(x));
        for (int left = x.undo(); left != STATE; left = x.undo()) {
            one.tell("acts left", left);
            one.spins();
        }
        one.tell("street", x.street());
        one.tell("fault", x.fault());
        for (int k = 0; k < 2; k++) {
            one.tell("image", x.restore(k));
            one.street();
        }
        return one.told.toString();
    }

    private void tell(String what, int answer) {
        told.append(what).append(' ').append(answer).append('\n');
    }

    private void spins() {
        for (int what = 2; what <= 5; what++) {
            tell("count", x.count(what));
        }
        for (int h = 0; h < x.count(1); h++) {
            tell("SPIN", x.house(h, 0));
        }
    }

    private void street() {
        for (int what = 0; what <= 7; what++) {
            tell("count", x.count(what));
        }
        for (int what = 0; what <= 5; what++) {
            tell("stand", x.stand(what));
        }
        for (int h = 0; h < x.count(1); h++) {
            tell("kind", x.kind(h));
            for (int what = 0; what <= 5; what++) {
                tell("house", x.house(h, what));
            }
        }
    }

    private void rows() {
        for (int r = 0; r < 8; r++) {
            for (int i = 0; i < 5; i++) {
                tell("item", x.who(0, 4, r, i, 1));
            }
        }
    }
}
