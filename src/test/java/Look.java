import java.util.ArrayList;
import java.util.List;

/** All that an object answers to questions, in some 120 calls: what two objects, or one at two times, are told apart by. */
final class Look {
    private static final int[] PLACES_OF_TAPES = {0, 1, 2, 59};

    private Look() {
    }

    static List<String> at(MiddleSpeaks x) {
        List<String> all = scene(x);
        for (int what = 0; what < 6; what++) {
            all.add("count(" + what + ") " + x.count(what));
        }
        for (int i = 0; i < 14; i++) {
            all.add("trace(" + i + ") " + x.trace(i));
        }
        for (int tape = 0; tape < 6; tape++) {
            for (int i : PLACES_OF_TAPES) {
                all.add("read(" + tape + ", " + i + ") " + x.read(tape, i));
            }
        }
        return all;
    }

    /** What an image keeps. */
    static List<String> scene(MiddleSpeaks x) {
        List<String> all = new ArrayList<>();
        for (int who = 0; who < x.count(0); who++) {
            for (int what = 0; what < 5; what++) {
                all.add("of(" + who + ", " + what + ") " + x.of(who, what));
            }
            for (int place = 0; place < 4; place++) {
                all.add("coming(" + who + ", " + place + ", 0) " + x.coming(who, place, 0));
            }
        }
        for (int room = 0; room < 3; room++) {
            for (int what = 0; what < 4; what++) {
                all.add("inside(" + room + ", " + what + ") " + x.inside(room, what));
            }
        }
        for (int what = 0; what < 3; what++) {
            all.add("told(" + what + ") " + x.told(what));
        }
        all.add("people " + x.count(0) + ", rows " + x.count(2) + ", book " + x.count(3));
        all.add("fits() " + x.fits());
        all.add("readBook() " + x.readBook());
        return all;
    }

    /** Tells what is otherwise. */
    static void isAsBefore(String call, List<String> then, List<String> before) {
        Due.is(call + ": as many answers", then.size(), before.size());
        for (int i = 0; i < Math.min(then.size(), before.size()); i++) {
            String was = before.get(i), is = then.get(i);
            Due.is(call + ": " + is + ", due is " + was + ": alike", is.equals(was) ? 1 : 0, 1);
        }
    }
}
