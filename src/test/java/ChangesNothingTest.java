import java.util.ArrayList;
import java.util.List;

/**
 * What is refused, and what is only asked, changes nothing: each such call is made on an object of its own, which must
 * answer all that is asked then as one on which the call was not made.
 */
final class ChangesNothingTest {
    private static final int EMPTY = 0, ORDINARY = 1, FULL = 2;

    /** One call, with its answer. */
    private interface Call {
        long on(MiddleSpeaks x);
    }

    public static void main(String[] args) {
        run();
        Due.end();
    }

    static void run() {
        Due.term("Answers: NONE (-1) no such number; BAD (-2) a number is not as told; STATE (-3) as told; FULL (-4);");
        Due.is("NONE", MiddleSpeaks.NONE, -1);
        Due.is("BAD", MiddleSpeaks.BAD, -2);
        Due.is("STATE", MiddleSpeaks.STATE, -3);
        Due.is("FULL", MiddleSpeaks.FULL, -4);
        none();
        bad();
        state();
        full();
        noNumber();
        byTheHost();
        Due.term("What is answered so changes nothing; what is asked changes nothing.");
        questions();
        dearQuestions();
        Due.term("the first that a call's words name.");
        firstNamed();
        justTheText();
        justTheTrace();
    }

    private static MiddleSpeaks made(int scene) {
        MiddleSpeaks x = new MiddleSpeaks();
        if (scene != EMPTY) {
            ordinary(x);
        }
        if (scene == FULL) {
            fill(x);
        }
        return x;
    }

    /** Three people of five, one house, a text that is a house, an image of other things, tapes 0 to 4 of all sorts. */
    private static void ordinary(MiddleSpeaks x) {
        x.person(20, 30, 0);
        x.person(40, 10, 1);
        x.image();
        x.person(30, 20, 0);
        x.room(0, 5, 3);
        x.room(1, 4, 0);
        x.room(2, 6, 9);
        x.learn(0, 7);
        x.learn(2, 1);
        Due.feed(x, "price 4 r=2;bar p=1&r=3;worth 6 n=2;same 3");
        x.house();
        x.come(0, 2);
        x.come(0, 0);
        x.come(2, 3);
        x.spoken(7, 2);
        x.book(0);
        x.book(10);
        for (int sort = 0; sort < 5; sort++) {
            x.tape(sort, sort, 3);
            x.item(sort, 1, 1);
        }
        x.act(2, 2, 1);
        Due.feed(x, "price 9 p<9;same 4");
    }

    private static void fill(MiddleSpeaks x) {
        x.person(50, 50, 2);
        x.person(60, 60, 3);
        x.house();
        for (int i = 2; i < 6; i++) {
            Due.feed(x, "same " + i);
            x.house();
        }
        for (int i = 1; i < 12; i++) {
            x.spoken(4, 2);
        }
        for (int i = 2; i < 12; i++) {
            x.book(10);
        }
        for (int i = 0; i < 100; i++) {
            x.feed('p');
        }
    }

    /** All that it answers: now, when the text is made a house, and when the image is taken back. */
    private static List<String> allOf(MiddleSpeaks x) {
        List<String> all = new ArrayList<>(Look.at(x));
        all.add("house() " + x.house());
        all.add("count(4) " + x.count(4));
        all.addAll(Look.scene(x));
        all.add("undo() " + x.undo());
        all.addAll(Look.scene(x));
        return all;
    }

    private static void changesNothing(int scene, String call, long due, Call made) {
        MiddleSpeaks x = made(scene);
        Due.is(call, made.on(x), due);
        Look.isAsBefore(call, allOf(x), allOf(made(scene)));
    }

    private static void none() {
        changesNothing(ORDINARY, "person(1, 1, 4)", -1, x -> x.person(1, 1, 4));
        changesNothing(EMPTY, "person(1, 1, -1)", -1, x -> x.person(1, 1, -1));
        changesNothing(ORDINARY, "of(3, 0)", -1, x -> x.of(3, 0));
        changesNothing(ORDINARY, "of(0, 5)", -1, x -> x.of(0, 5));
        changesNothing(ORDINARY, "learn(3, 1)", -1, x -> x.learn(3, 1));
        changesNothing(EMPTY, "learn(0, 1)", -1, x -> x.learn(0, 1));
        changesNothing(ORDINARY, "room(3, 1, 1)", -1, x -> x.room(3, 1, 1));
        changesNothing(ORDINARY, "room(0, 7, 1)", -1, x -> x.room(0, 7, 1));
        changesNothing(ORDINARY, "inside(3, 2)", -1, x -> x.inside(3, 2));
        changesNothing(ORDINARY, "inside(0, 4)", -1, x -> x.inside(0, 4));
        changesNothing(ORDINARY, "told(3)", -1, x -> x.told(3));
        changesNothing(ORDINARY, "coming(3, 0, 0)", -1, x -> x.coming(3, 0, 0));
        changesNothing(ORDINARY, "come(3, 0)", -1, x -> x.come(3, 0));
        changesNothing(ORDINARY, "come(0, 4)", -1, x -> x.come(0, 4));
        changesNothing(EMPTY, "come(0, 1)", -1, x -> x.come(0, 1));
        changesNothing(ORDINARY, "say(3, 0)", -10001, x -> x.say(3, 0));
        changesNothing(ORDINARY, "say(0, 8)", -10001, x -> x.say(0, 8));
        changesNothing(ORDINARY, "soonest(3, 0, 0)", -1, x -> x.soonest(3, 0, 0));
        changesNothing(ORDINARY, "cheapest(0, 3, 1)", -1, x -> x.cheapest(0, 3, 1));
        changesNothing(ORDINARY, "never(3)", -1, x -> x.never(3));
        changesNothing(ORDINARY, "heard(8)", -1, x -> x.heard(8));
        changesNothing(ORDINARY, "secret(0, 3, 0)", -1, x -> x.secret(0, 3, 0));
        changesNothing(ORDINARY, "game(3, 1, 1)", -1, x -> x.game(3, 1, 1));
        changesNothing(ORDINARY, "votes(0, 8)", -1, x -> x.votes(0, 8));
        changesNothing(ORDINARY, "spoken(5, 1)", -2, x -> x.spoken(5, 1));
        changesNothing(ORDINARY, "spoken(4, 1)", -1, x -> x.spoken(4, 1));
        changesNothing(ORDINARY, "book(50)", -1, x -> x.book(50));
        changesNothing(ORDINARY, "book(8)", -1, x -> x.book(8));
        changesNothing(ORDINARY, "book(-2)", -1, x -> x.book(-2));
        changesNothing(ORDINARY, "judge(6, 0)", -1, x -> x.judge(6, 0));
        changesNothing(ORDINARY, "trace(20)", -1, x -> x.trace(20));
        changesNothing(ORDINARY, "tape(6, 1, 3)", -1, x -> x.tape(6, 1, 3));
        changesNothing(ORDINARY, "tape(-1, -1, 3)", -1, x -> x.tape(-1, -1, 3));
        changesNothing(ORDINARY, "item(6, 0, 1)", -1, x -> x.item(6, 0, 1));
        changesNothing(ORDINARY, "shift(0, 0, 6, 0, 1)", -1, x -> x.shift(0, 0, 6, 0, 1));
    }

    private static void bad() {
        changesNothing(ORDINARY, "person(100, 1, 0)", -2, x -> x.person(100, 1, 0));
        changesNothing(ORDINARY, "person(1, -1, 0)", -2, x -> x.person(1, -1, 0));
        changesNothing(ORDINARY, "learn(0, 256)", -2, x -> x.learn(0, 256));
        changesNothing(ORDINARY, "learn(0, -1)", -2, x -> x.learn(0, -1));
        changesNothing(ORDINARY, "room(0, 1, 10)", -2, x -> x.room(0, 1, 10));
        changesNothing(ORDINARY, "room(0, 1, -1)", -2, x -> x.room(0, 1, -1));
        changesNothing(ORDINARY, "feed(128)", -2, x -> x.feed(128));
        changesNothing(ORDINARY, "feed(-1)", -2, x -> x.feed(-1));
        changesNothing(ORDINARY, "coming(0, 0, 0)", -2, x -> x.coming(0, 0, 0));
        changesNothing(ORDINARY, "come(0, 0)", -2, x -> x.come(0, 0));
        changesNothing(ORDINARY, "come(2, 3)", -2, x -> x.come(2, 3));
        changesNothing(ORDINARY, "cheapest(0, 0, 5)", -2, x -> x.cheapest(0, 0, 5));
        changesNothing(ORDINARY, "secret(1, 1, 0)", -2, x -> x.secret(1, 1, 0));
        changesNothing(ORDINARY, "game(0, 8, 1)", -2, x -> x.game(0, 8, 1));
        changesNothing(ORDINARY, "game(0, 1, 4)", -2, x -> x.game(0, 1, 4));
        changesNothing(ORDINARY, "spoken(8, 3)", -2, x -> x.spoken(8, 3));
        changesNothing(ORDINARY, "spoken(-2, 0)", -2, x -> x.spoken(-2, 0));
        changesNothing(ORDINARY, "taken(0, 7)", -2, x -> x.taken(0, 7));
        changesNothing(ORDINARY, "count(6)", -2, x -> x.count(6));
        changesNothing(ORDINARY, "tape(0, 5, 3)", -2, x -> x.tape(0, 5, 3));
        changesNothing(ORDINARY, "tape(0, -2, 3)", -2, x -> x.tape(0, -2, 3));
        changesNothing(ORDINARY, "tape(0, 1, 61)", -2, x -> x.tape(0, 1, 61));
    }

    private static void state() {
        changesNothing(ORDINARY, "come(1, 3)", -3, x -> x.come(1, 3));
        changesNothing(ORDINARY, "say(2, 0)", -10003, x -> x.say(2, 0));
        changesNothing(ORDINARY, "say(0, 3)", -10003, x -> x.say(0, 3));
        changesNothing(EMPTY, "undo()", -3, x -> x.undo());
    }

    private static void full() {
        changesNothing(FULL, "person(1, 1, 1)", -4, x -> x.person(1, 1, 1));
        changesNothing(FULL, "feed(59)", -4, x -> x.feed(59));
        changesNothing(FULL, "house()", -4, x -> x.house());
        changesNothing(FULL, "spoken(4, 2)", -4, x -> x.spoken(4, 2));
        changesNothing(FULL, "book(10)", -4, x -> x.book(10));
        changesNothing(FULL, "person(1, 1, 4)", -1, x -> x.person(1, 1, 4));
        changesNothing(FULL, "feed(128)", -2, x -> x.feed(128));
        changesNothing(FULL, "spoken(3, 1)", -2, x -> x.spoken(3, 1));
        changesNothing(FULL, "book(9)", -1, x -> x.book(9));
    }

    private static void byTheHost() {
        Due.term("The host's refusals: NOTHING (-11): nothing is there; CAST (-12): another sort or KIND; PLACE (-13): no such place; "
            + "SIZE (-14): a size below 0.");
        changesNothing(ORDINARY, "taken(3, 0)", -11, x -> x.taken(3, 0));
        changesNothing(ORDINARY, "item(5, 0, 1)", -11, x -> x.item(5, 0, 1));
        changesNothing(ORDINARY, "shift(5, 0, 0, 0, 1)", -11, x -> x.shift(5, 0, 0, 0, 1));
        changesNothing(ORDINARY, "shift(0, 0, 5, 0, 1)", -11, x -> x.shift(0, 0, 5, 0, 1));
        changesNothing(ORDINARY, "judge(3, 0)", -12, x -> x.judge(3, 0));
        changesNothing(ORDINARY, "taken(0, 1)", -12, x -> x.taken(0, 1));
        changesNothing(ORDINARY, "shift(0, 0, 1, 0, 1)", -12, x -> x.shift(0, 0, 1, 0, 1));
        changesNothing(ORDINARY, "item(0, 3, 1)", -13, x -> x.item(0, 3, 1));
        changesNothing(ORDINARY, "item(0, -1, 1)", -13, x -> x.item(0, -1, 1));
        changesNothing(ORDINARY, "shift(0, 1, 0, 0, 3)", -13, x -> x.shift(0, 1, 0, 0, 3));
        changesNothing(ORDINARY, "shift(0, 0, 0, 1, 3)", -13, x -> x.shift(0, 0, 0, 1, 3));
        changesNothing(ORDINARY, "shift(0, 1, 0, 0, -1)", -13, x -> x.shift(0, 1, 0, 0, -1));
        changesNothing(ORDINARY, "tape(0, 1, -1)", -14, x -> x.tape(0, 1, -1));
    }

    private static void noNumber() {
        changesNothing(ORDINARY, "lot(3, 1, 0)", Long.MIN_VALUE, x -> x.lot(3, 1, 0));
        changesNothing(ORDINARY, "lot(0, 3, 0)", Long.MIN_VALUE, x -> x.lot(0, 3, 0));
        changesNothing(ORDINARY, "lot(0, 1, 2)", Long.MIN_VALUE, x -> x.lot(0, 1, 2));
        changesNothing(ORDINARY, "read(6, 0)", Long.MIN_VALUE, x -> x.read(6, 0));
        changesNothing(ORDINARY, "read(5, 0)", Long.MIN_VALUE, x -> x.read(5, 0));
        changesNothing(ORDINARY, "read(0, 3)", Long.MIN_VALUE, x -> x.read(0, 3));
    }

    /** 0 (of 20, knows 0 to 2) is in 0, a turning one; 1 (of 40) in 1; 2 (of 30) out; 3 COMINGS for 1 + 4, 1 and 1. */
    private static void questions() {
        changesNothing(ORDINARY, "of(0, 4)", 1, x -> x.of(0, 4));
        changesNothing(ORDINARY, "inside(0, 3)", 1, x -> x.inside(0, 3));
        changesNothing(ORDINARY, "told(2)", 7, x -> x.told(2));
        changesNothing(ORDINARY, "coming(0, 2, 0)", 5, x -> x.coming(0, 2, 0));
        changesNothing(ORDINARY, "coming(1, 3, 1)", 1, x -> x.coming(1, 3, 1));
        changesNothing(ORDINARY, "votes(0, 0)", 1, x -> x.votes(0, 0));
        changesNothing(ORDINARY, "fits()", 2, x -> x.fits());
        changesNothing(ORDINARY, "readBook()", 1, x -> x.readBook());
        changesNothing(ORDINARY, "judge(2, 0)", 0, x -> x.judge(2, 0));
        changesNothing(ORDINARY, "judge(5, 0)", 100, x -> x.judge(5, 0));
        changesNothing(ORDINARY, "trace(0)", 40, x -> x.trace(0));
        changesNothing(ORDINARY, "taken(2, 3)", 6, x -> x.taken(2, 3));
        changesNothing(ORDINARY, "count(0)", 3, x -> x.count(0));
        changesNothing(ORDINARY, "read(3, 1)", 1, x -> x.read(3, 1));
        changesNothing(EMPTY, "fits()", -5, x -> x.fits());
        changesNothing(EMPTY, "readBook()", 0, x -> x.readBook());
        changesNothing(FULL, "fits()", 40, x -> x.fits());
        changesNothing(FULL, "readBook()", 1, x -> x.readBook());
    }

    private static void dearQuestions() {
        changesNothing(ORDINARY, "soonest(2, 1, 0)", 1, x -> x.soonest(2, 1, 0));
        changesNothing(ORDINARY, "soonest(2, 1, 1)", 9, x -> x.soonest(2, 1, 1));
        changesNothing(ORDINARY, "cheapest(2, 2, 4)", 5, x -> x.cheapest(2, 2, 4));
        changesNothing(ORDINARY, "never(2)", 0, x -> x.never(2));
        changesNothing(ORDINARY, "heard(0)", 1, x -> x.heard(0));
        changesNothing(ORDINARY, "heard(5)", -5, x -> x.heard(5));
        changesNothing(ORDINARY, "secret(0, 1, 2)", 0, x -> x.secret(0, 1, 2));
        changesNothing(ORDINARY, "secret(1, 0, 2)", -5, x -> x.secret(1, 0, 2));
        changesNothing(ORDINARY, "game(1, 2, 3)", 1, x -> x.game(1, 2, 3));
        changesNothing(ORDINARY, "lot(0, 0, 1)", 1, x -> x.lot(0, 0, 1));
        changesNothing(EMPTY, "never(0)", 0, x -> x.never(0));
        changesNothing(EMPTY, "heard(0)", 0, x -> x.heard(0));
        changesNothing(EMPTY, "game(0, 0, 3)", 0, x -> x.game(0, 0, 3));
        changesNothing(FULL, "heard(7)", -5, x -> x.heard(7));
        changesNothing(FULL, "secret(4, 3, 7)", -5, x -> x.secret(4, 3, 7));
        changesNothing(FULL, "cheapest(4, 2, 4)", 2, x -> x.cheapest(4, 2, 4));
    }

    /** Calls that could be refused for two reasons or more: the one that the words name first is answered. */
    private static void firstNamed() {
        changesNothing(ORDINARY, "person: BAD, NONE", -2, x -> x.person(100, 1, 4));
        changesNothing(FULL, "person: BAD, NONE, FULL", -2, x -> x.person(1, 100, 4));
        changesNothing(FULL, "person: NONE, FULL", -1, x -> x.person(1, 1, 4));
        changesNothing(ORDINARY, "learn: NONE, BAD", -1, x -> x.learn(3, 256));
        changesNothing(ORDINARY, "room: NONE, BAD", -1, x -> x.room(3, 1, 10));
        changesNothing(ORDINARY, "room: NONE, BAD, by its kind", -1, x -> x.room(0, 7, 10));
        changesNothing(FULL, "feed: BAD, FULL", -2, x -> x.feed(128));
        changesNothing(FULL, "house: FULL, a fault", -4, x -> x.house());
        changesNothing(ORDINARY, "coming: NONE, BAD", -1, x -> x.coming(0, 0, 2));
        changesNothing(ORDINARY, "come: BAD, STATE", -2, ChangesNothingTest::comeWhereBarred);
        changesNothing(ORDINARY, "say: NONE, STATE", -10001, x -> x.say(2, 8));
        changesNothing(ORDINARY, "cheapest: NONE, BAD", -1, x -> x.cheapest(0, 3, 5));
        changesNothing(ORDINARY, "secret: NONE, BAD", -1, x -> x.secret(1, 1, 8));
        changesNothing(ORDINARY, "game: NONE, BAD", -1, x -> x.game(3, 8, 4));
        changesNothing(FULL, "spoken: BAD, NONE, FULL", -2, x -> x.spoken(3, 4));
        changesNothing(FULL, "spoken: NONE, FULL", -1, x -> x.spoken(1, 4));
        changesNothing(FULL, "book: NONE, FULL", -1, x -> x.book(8));
        changesNothing(ORDINARY, "taken: BAD, NOTHING", -2, x -> x.taken(3, 7));
        changesNothing(ORDINARY, "taken: NOTHING, CAST", -11, x -> x.taken(3, 6));
        changesNothing(ORDINARY, "tape: NONE, BAD", -1, x -> x.tape(6, 5, 61));
        changesNothing(ORDINARY, "tape: BAD, SIZE", -2, x -> x.tape(0, 5, -1));
        changesNothing(ORDINARY, "item: NOTHING, PLACE", -11, x -> x.item(5, -1, 1));
        changesNothing(ORDINARY, "shift: NONE, NOTHING", -1, x -> x.shift(5, 0, 6, 0, 1));
        changesNothing(ORDINARY, "shift: NOTHING, PLACE", -11, x -> x.shift(5, -1, 0, 0, 1));
        changesNothing(ORDINARY, "shift: CAST, PLACE", -12, x -> x.shift(0, -1, 1, 0, 1));
    }

    /** A house that holds bars all from out, where 2 is. */
    private static long comeWhereBarred(MiddleSpeaks x) {
        MiddleSpeaks barred = made(ORDINARY);
        barred.house();
        Due.feed(barred, "bar r=3");
        barred.house();
        Due.is("there ahead of barred", barred.come(2, 3), -2);
        return x.come(2, 3);
    }

    /** A FAULT empties the text, and nothing else. */
    private static void justTheText() {
        MiddleSpeaks x = made(ORDINARY), y = made(ORDINARY);
        x.house();
        y.house();
        List<String> before = Look.at(x);
        Due.house(x, "same 9;bar q=1", -21);
        Look.isAsBefore("behind a fault", Look.at(x), before);
        Due.is("the image is the same", x.undo(), y.undo());
        Look.isAsBefore("behind a fault, undone", Look.scene(x), Look.scene(y));
    }

    /** An act, refused or not, changes the trace, and nothing else. */
    private static void justTheTrace() {
        List<String> before = Look.scene(made(ORDINARY));
        int[][] acts = {{0, 0, 5}, {1, 1, 5}, {2, 2, 5}, {3, 0, 5}, {0, 3, 5}, {-1, -1, 5}};
        for (int[] act : acts) {
            MiddleSpeaks x = made(ORDINARY);
            x.act(act[0], act[1], act[2]);
            Look.isAsBefore("behind act(" + act[0] + ", " + act[1] + ", 5)", Look.scene(x), before);
        }
    }
}
