import java.util.ArrayList;
import java.util.List;

/** All that can be seen of an object, as a list of answers. */
final class Sight {
    private final SewnRoads x;
    private final List<String> seen = new ArrayList<>();

    private Sight(SewnRoads x) {
        this.x = x;
    }

    /** How all is now; the object is not changed. */
    static List<String> now(SewnRoads x) {
        Sight sight = new Sight(x);
        sight.look("now");
        return sight.seen;
    }

    /** How all is and was, what slots hold and what stands on the tape; the object is used up by it. */
    static List<String> whole(SewnRoads x) {
        Sight sight = new Sight(x);
        sight.look("now");
        for (int i = 1; i < 100 && x.undo(); i++) {
            sight.look("undone " + i);
        }
        for (int slot = 0; slot < 3; slot++) {
            if (x.restore(slot)) {
                sight.look("slot " + slot);
            }
        }
        sight.add("read()", x.read());
        sight.look("read");
        return sight.seen;
    }

    private void add(String what, int answer) {
        seen.add(what + " = " + answer);
    }

    private void look(String when) {
        for (int what = 0; what < 15; what++) {
            add(when + ": count(" + what + ")", x.count(what));
        }
        add(when + ": place()", x.place());
        for (int i = 0; i < x.count(1); i++) {
            for (int what = 0; what < 7; what++) {
                add(when + ": seam(" + i + ", " + what + ")", x.seam(i, what));
            }
            add(when + ": toll(" + i + ", 5)", x.toll(i, 5));
        }
        for (int i = 0; i < x.count(3); i++) {
            for (int what = 0; what < 8; what++) {
                add(when + ": cart(" + i + ", " + what + ")", x.cart(i, what));
            }
        }
        for (int k = 0; k <= x.count(10); k++) {
            add(when + ": cuts(" + k + ", 1)", x.cuts(k, 1));
        }
    }
}
