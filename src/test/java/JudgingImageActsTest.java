import java.util.List;

/** Judging, the image, acts, what is taken for what, counts: promises 25 to 31. */
final class JudgingImageActsTest {
    public static void main(String[] args) {
        run();
        Due.end();
    }

    static void run() {
        judgedOtherwise();
        judgedAllSo();
        judgedTooShort();
        refusedJudging();
        image();
        undo();
        undoOfLess();
        imageStays();
        houseOfImage();
        bodies();
        actsGoUp();
        actWraps();
        trace();
        noAct();
        taken();
        refusedTaken();
        count();
    }

    /** What three people know is 5, 0, 255; tape 0 holds ints. */
    private static MiddleSpeaks three() {
        MiddleSpeaks x = Due.withPeople(new int[3], new int[3], new int[3]);
        x.learn(0, 5);
        x.learn(2, 255);
        return x;
    }

    private static void holds(MiddleSpeaks x, int... items) {
        x.tape(0, 2, items.length);
        for (int i = 0; i < items.length; i++) {
            Due.is("item " + i, x.item(0, i, items[i]), 1);
        }
    }

    private static void judgedOtherwise() {
        MiddleSpeaks x = three();
        Due.term("What PEOPLE KNOW, told by a row of ints, from a place on, by numbers, is JUDGED: the first of whom it is otherwise;");
        holds(x, 0, 0, 255, 5);
        Due.is("0, and nobody else", x.judge(0, 0), 0);
        holds(x, 5, 1, 255, 5);
        Due.is("1", x.judge(0, 0), 1);
        holds(x, 5, 0, 254, 5);
        Due.is("2", x.judge(0, 0), 2);
        holds(x, 7, 7, 7);
        Due.is("all: the first", x.judge(0, 0), 0);
        holds(x, 5 + 256, 0, 255);
        Due.is("its lowest bits alone are so", x.judge(0, 0), 0);
        holds(x, 9, 5, 1);
        Due.is("1, from 1 on, ahead of the end", x.judge(0, 1), 1);
        holds(x, 0, 4);
        Due.is("0, from the last place on", x.judge(0, 1), 0);
    }

    private static void judgedAllSo() {
        MiddleSpeaks x = three();
        Due.term("-5: none, or there is nobody (also if the TAPE holds nothing);");
        holds(x, 5, 0, 255);
        Due.is("the row is just as long", x.judge(0, 0), -5);
        holds(x, 9, 5, 0, 255);
        Due.is("from 1 on", x.judge(0, 1), -5);
        holds(x, 5, 0, 255, 9);
        Due.is("what is behind does not count", x.judge(0, 0), -5);
        x.tape(0, 2, 60);
        x.item(0, 57, 5);
        x.item(0, 59, 255);
        Due.is("the last three of 60", x.judge(0, 57), -5);
        MiddleSpeaks nobody = new MiddleSpeaks();
        nobody.tape(0, 2, 4);
        nobody.tape(1, 2, 0);
        for (int i : new int[] {0, 3, 4, 5, 60, -1, Due.MIN, Due.MAX}) {
            Due.is("nobody, from " + i, nobody.judge(0, i), -5);
            Due.is("nobody, of an empty row, from " + i, nobody.judge(1, i), -5);
            Due.is("nobody, of nothing, from " + i, nobody.judge(5, i), -5);
        }
    }

    private static void judgedTooShort() {
        MiddleSpeaks x = three();
        Due.term("100 and how many were looked at, if the row ends ahead of that (or the place is below 0, or the TAPE holds nothing).");
        holds(x, 5, 0);
        Due.is("two", x.judge(0, 0), 102);
        holds(x, 5, 0, 5);
        Due.is("one, from 2 on", x.judge(0, 2), 101);
        Due.is("none, from the end on", x.judge(0, 3), 100);
        for (int i : new int[] {-1, 4, 5, 59, 60, 256, 65536, Due.MIN, Due.MIN + 1, Due.MAX, Due.MAX - 1}) {
            Due.is("from " + i, x.judge(0, i), 100);
            Due.is("of nothing from " + i, x.judge(5, i), 100);
        }
        Due.is("of nothing from 0", x.judge(5, 0), 100);
        x.tape(1, 2, 0);
        Due.is("an empty row", x.judge(1, 0), 100);
        x.tape(0, -1, 0);
        Due.is("nothing any more", x.judge(0, 0), 100);
        x.tape(0, 2, 60);
        x.item(0, 58, 5);
        Due.is("the last two of 60", x.judge(0, 58), 102);
    }

    private static void refusedJudging() {
        MiddleSpeaks x = three();
        Due.promise(25, "JUDGED from place i of a TAPE on.");
        x.tape(3, 2, 2);
        x.item(3, 1, 5);
        Due.is("from 0", x.judge(3, 0), 0);
        Due.is("from 1", x.judge(3, 1), 101);
        Due.promise(25, "NONE: tape;");
        for (int wrong : Due.beside(0, 5)) {
            Due.is("tape " + wrong, x.judge(wrong, 0), -1);
            Due.is("tape " + wrong + " where nobody is", new MiddleSpeaks().judge(wrong, 0), -1);
        }
        Due.promise(25, "CAST: it is no row of ints.");
        for (int sort : new int[] {0, 1, 3, 4}) {
            MiddleSpeaks nobody = new MiddleSpeaks();
            nobody.tape(2, sort, 9);
            Due.is("of sort " + sort + " where nobody is", nobody.judge(2, 0), -12);
            x.tape(2, sort, 9);
            Due.is("of sort " + sort, x.judge(2, 0), -12);
            Due.is("of sort " + sort + " ahead of its place", x.judge(2, -1), -12);
            Due.is("of sort " + sort + " ahead of its end", x.judge(2, 9), -12);
            x.tape(2, sort, 0);
            Due.is("of none of sort " + sort, x.judge(2, 0), -12);
        }
    }

    private static void image() {
        MiddleSpeaks x = new MiddleSpeaks();
        Due.promise(26, "THE IMAGE is taken: how many PEOPLE there are.");
        Due.is("of nobody", x.image(), 0);
        x.person(1, 2, 0);
        x.person(1, 2, 0);
        x.learn(0, 3);
        Due.is("back to nobody", x.undo(), 0);
        Due.is("none", x.count(0), 0);
        Due.is("none of", x.of(0, 0), -1);
        Due.is("as the first again", x.person(3, 4, 1), 0);
        Due.is("knows nothing", x.of(0, 3), 0);
        Due.is("of one", x.image(), 1);
        x.person(1, 2, 0);
        Due.is("the newer image", x.undo(), 1);
        for (int who = 1; who < 5; who++) {
            x.person(1, 2, 0);
            Due.is("of " + (who + 1), x.image(), who + 1);
        }
    }

    /** A scene in which nothing is as at first, told in a house, two rows, two sayings. */
    private static MiddleSpeaks told() {
        MiddleSpeaks x = Due.withPeople(new int[] {10, 20, 30}, new int[] {4, 5, 6}, new int[] {0, 1, 3});
        x.learn(1, 77);
        x.room(0, 1, 3);
        x.room(1, 4, 2);
        x.room(2, 6, 9);
        Due.house(x, "price 40 p=2;same 2", 0);
        x.come(2, 0);
        x.spoken(7, 1);
        x.spoken(1, 0);
        x.book(12);
        x.book(16);
        return x;
    }

    private static void undo() {
        MiddleSpeaks x = told();
        Due.term("THE IMAGE: PEOPLE with all that is theirs, ROOMS' KINDS and v, COMINGS, COST, SPOKEN, the BOOK, which HOUSE holds.");
        List<String> before = Look.scene(x);
        Due.is("taken", x.image(), 3);
        Look.isAsBefore("taking it changes nothing", Look.scene(x), before);
        x.person(40, 40, 2);
        x.learn(1, 3);
        x.learn(0, 1);
        x.room(0, 5, 5);
        x.room(1, 0, 0);
        x.room(2, 2, 2);
        Due.house(x, "same 9;price 3 p=0", 1);
        x.come(1, 2);
        x.come(0, 3);
        x.spoken(8, 3);
        x.book(44);
        x.tape(1, 2, 3);
        Due.feed(x, "sa");
        x.act(1, 1, 1);
        Due.promise(27, "All is as THE IMAGE: how many PEOPLE.");
        Due.is("as it was", x.undo(), 3);
        Look.isAsBefore("undo", Look.scene(x), before);
        Due.is("what is in no image stays: houses", x.count(1), 2);
        Due.is("the text", x.count(4), 2);
        Due.is("the tape", x.read(1, 2), 0);
        Due.is("the trace", x.trace(0), 11);
        Due.is("how many ran", x.count(5), 2);
    }

    /** There is less of all at the time of undoing, or another row of the same length. */
    private static void undoOfLess() {
        MiddleSpeaks x = told();
        List<String> before = Look.scene(x);
        x.image();
        x.spoken(-1, 0);
        x.book(-1);
        x.learn(1, 0);
        Due.is("undone", x.undo(), 3);
        Look.isAsBefore("undo of less", Look.scene(x), before);
        x.spoken(-1, 0);
        x.spoken(7, 0);
        x.spoken(7, 2);
        x.book(-1);
        x.book(1);
        x.book(2);
        Due.is("undone again", x.undo(), 3);
        Look.isAsBefore("undo of other rows", Look.scene(x), before);
        Due.is("rows go on", x.spoken(7, 1), 3);
        Due.is("the book goes on", x.book(1), 3);
    }

    private static void imageStays() {
        MiddleSpeaks x = new MiddleSpeaks();
        Due.promise(27, "STATE: there is none.");
        Due.is("at first", x.undo(), -3);
        x.person(1, 2, 0);
        Due.is("with one", x.undo(), -3);
        Due.is("who stays", x.count(0), 1);
        x.image();
        for (int round = 0; round < 3; round++) {
            x.person(round, round, round);
            x.learn(0, round + 1);
            x.room(0, round + 1, round);
            Due.is("undone by the same image " + round, x.undo(), 1);
            Due.is("of one", x.count(0), 1);
            Due.is("who knows nothing", x.of(0, 3), 0);
            Due.is("in a room as it was", x.inside(0, 0), 0);
        }
    }

    private static void houseOfImage() {
        MiddleSpeaks x = Due.withPeople(new int[] {1}, new int[1], new int[1]);
        x.image();
        Due.house(x, "price 5 p=0;same 3", 0);
        x.undo();
        Due.is("none held", x.told(0), 0);
        Due.is("no price", x.coming(0, 1, 0), 1);
        Due.house(x, "same 4", 1);
        Due.is("the newest", x.told(0), 4);
        x.image();
        Due.house(x, "same 5", 2);
        Due.house(x, "same 6", 3);
        x.undo();
        Due.is("the one that held", x.told(0), 4);
        Due.is("all are there yet", x.count(1), 4);
        Due.house(x, "x", -10);
        Due.is("it holds behind a fault", x.told(0), 4);
        Due.house(x, "same 7", 4);
        Due.house(x, "same 8", 5);
        x.undo();
        Due.feed(x, "same 9");
        Due.is("full, though an early one holds", x.house(), -4);
        Due.is("it holds yet", x.told(0), 4);
    }

    /** In a room of number 2, v 5, x 7: what is answered, then the bodies as they began. */
    private static void bodies() {
        Due.term("ACTS of a ROOM with x (wrapping): 0 hears, 1 speaks, 2 tells; i its number.");
        Due.term("BODIES: ROOM: 10 hears: x + i. 11 speaks: hears(x) - v. 12 tells: speaks(x) * 2.");
        act(0, 0, 9, 10);
        act(0, 1, 4, 11, 10);
        act(0, 2, 8, 12, 11, 10);
        Due.term("LOWER: 20 speaks: super.speaks(x) ^ 6.");
        act(1, 0, 9, 10);
        act(1, 1, 4 ^ 6, 20, 11, 10);
        act(1, 2, (4 ^ 6) * 2, 12, 20, 11, 10);
        Due.term("ELDER: 30 hears: super.hears(x * 3).");
        act(2, 0, 23, 30, 10);
        act(2, 1, 18, 11, 30, 10);
        act(2, 2, 36, 12, 11, 30, 10);
        Due.term("TALL: 40 tells: super.tells(x) + speaks(1).");
        act(3, 0, 9, 10);
        act(3, 1, 4, 11, 10);
        act(3, 2, 8 + (3 - 5), 40, 12, 11, 10, 11, 10);
        Due.term("BOTH: 50 hears: -super.hears(x). 51 speaks: super.speaks(x + 1).");
        act(4, 0, -9, 50, 10);
        act(4, 1, (-10 - 5) ^ 6, 51, 20, 11, 50, 10);
        act(4, 2, ((-10 - 5) ^ 6) * 2, 12, 51, 20, 11, 50, 10);
        Due.term("TURNING: 60 tells: super.tells(x - i).");
        act(5, 0, 23, 30, 10);
        act(5, 1, 18, 11, 30, 10);
        act(5, 2, (15 + 2 - 5) * 2, 60, 12, 11, 30, 10);
        Due.term("SMALL: 70 speaks: super.speaks(x) + super.hears(2). 71 hears: super.hears(x) ^ v.");
        act(6, 0, 9 ^ 5, 71, 10);
        act(6, 1, (9 ^ 5) - 5 + 4, 70, 11, 71, 10, 10);
        act(6, 2, ((9 ^ 5) - 1) * 2 + ((3 ^ 5) - 1), 40, 12, 70, 11, 71, 10, 10, 70, 11, 71, 10, 10);
    }

    private static void act(int kind, int act, int want, int... bodies) {
        MiddleSpeaks x = new MiddleSpeaks();
        x.room(2, kind, 5);
        String call = "kind " + kind + ", act " + act;
        Due.is(call, x.act(2, act, 7), want);
        Due.is(call + ": how many ran", x.count(5), bodies.length);
        for (int i = 0; i < bodies.length; i++) {
            Due.is(call + ": body " + i, x.trace(i), bodies[i]);
        }
        for (int wrong : Due.beside(0, bodies.length - 1)) {
            Due.is(call + ": body " + wrong, x.trace(wrong), -1);
        }
    }

    private static void actsGoUp() {
        Due.term("hears(..) and so on: the body of its KIND, or, if that has none, of the next KIND above that has one; "
            + "super.hears(..): so from the KIND above the body's on; all that stands in a body is done from the left on.");
        MiddleSpeaks x = new MiddleSpeaks();
        x.room(0, 6, 9);
        Due.is("tells of TALL, the next above, and its speaks(1) of SMALL", x.act(0, 2, 0), (9 - 9 + 2) * 2 + ((1 ^ 9) - 9 + 2));
        Due.is("TALL", x.trace(0), 40);
        Due.is("ROOM, as TALL's super", x.trace(1), 12);
        Due.is("SMALL, as speaks of its kind", x.trace(2), 70);
        Due.is("ROOM, above TALL which has none", x.trace(3), 11);
        Due.is("SMALL, as hears of its kind", x.trace(4), 71);
        Due.is("TALL's second part is behind the first", x.trace(7), 70);
        x.room(0, 4, 0);
        Due.is("two above: tells of ROOM", x.act(0, 2, 1), (-2 ^ 6) * 2);
        Due.is("ROOM's", x.trace(0), 12);
        Due.is("of room 0", x.act(0, 0, 5), -5);
        Due.is("of room 1, another kind", x.act(1, 0, 5), 6);
    }

    private static void actWraps() {
        MiddleSpeaks x = new MiddleSpeaks();
        Due.is("x + i above the most", x.act(1, 0, Due.MAX), Due.MIN);
        x.room(0, 0, 9);
        Due.is("less v below the least", x.act(0, 1, Due.MIN), Due.MAX - 8);
        x.room(0, 2, 0);
        Due.is("three times the most", x.act(0, 0, Due.MAX), Due.MAX - 2);
        Due.is("three times the least", x.act(0, 0, Due.MIN), Due.MIN);
        x.room(0, 0, 0);
        Due.is("twice the least", x.act(0, 2, Due.MIN), 0);
        Due.is("twice the most", x.act(0, 2, Due.MAX), -2);
        x.room(0, 4, 0);
        Due.is("less the least", x.act(0, 0, Due.MIN), Due.MIN);
        Due.is("the most and 1", x.act(0, 1, Due.MAX), Due.MIN ^ 6);
        x.room(2, 5, 0);
        Due.is("the least less 2, by three", x.act(2, 2, Due.MIN), ((Due.MAX - 1) * 3 + 2) * 2);
        x.room(2, 3, 0);
        Due.is("both parts of TALL together", x.act(2, 2, Due.MAX / 2), Due.MIN + 2 + 3);
        x.room(2, 6, 0);
        Due.is("both parts of SMALL together", x.act(2, 1, Due.MAX - 4), Due.MIN + 1);
    }

    private static void trace() {
        // no act runs more than 12 bodies, so that all of them are kept
        Due.term("THE TRACE: the numbers of the bodies that ran in the latest act(), as they began; the first 20 are kept.");
        MiddleSpeaks x = new MiddleSpeaks();
        for (int i = 0; i < 21; i++) {
            Due.is("at first", x.trace(i), -1);
        }
        x.room(0, 6, 1);
        x.act(0, 2, 1);
        Due.is("twelve", x.count(5), 12);
        Due.is("the twelfth", x.trace(11), 10);
        Due.is("a thirteenth", x.trace(12), -1);
        for (int kind = 0; kind < 7; kind++) {
            x.room(2, kind, 4);
            for (int act = 0; act < 3; act++) {
                x.act(2, act, kind);
                int ran = x.count(5);
                Due.is("some ran, and 12 at most", ran > 0 && ran <= 12 ? 1 : 0, 1);
                Due.is("the last of them is kept", x.trace(ran - 1), 10);
                Due.is("there is none behind it", x.trace(ran), -1);
            }
        }
        x.act(1, 0, 1);
        Due.is("the latest alone", x.count(5), 1);
        Due.is("its first", x.trace(0), 10);
        Due.is("none of the one ahead of it", x.trace(1), -1);
        Due.promise(29, "THE TRACE's i-th body.");
        x.act(1, 1, 1);
        Due.is("the first", x.trace(0), 11);
        Due.is("the second", x.trace(1), 10);
        Due.promise(29, "NONE.");
        for (int wrong : Due.beside(0, 1)) {
            Due.is("body " + wrong, x.trace(wrong), -1);
        }
        for (int wrong = 2; wrong < 22; wrong++) {
            Due.is("body " + wrong, x.trace(wrong), -1);
        }
    }

    private static void noAct() {
        MiddleSpeaks x = new MiddleSpeaks();
        Due.promise(28, "An ACT (0 hears, 1 speaks, 2 tells) of a ROOM with x.");
        Due.is("hears", x.act(2, 0, 1), 3);
        Due.is("speaks", x.act(2, 1, 1), 3);
        Due.is("tells", x.act(2, 2, 1), 6);
        Due.promise(28, "0, and no TRACE then: no such ROOM, act.");
        for (int wrong : Due.beside(0, 2)) {
            x.act(0, 2, 5);
            Due.is("there is a trace", x.trace(0), 12);
            Due.is("room " + wrong, x.act(wrong, 0, 5), 0);
            Due.is("no trace", x.trace(0), -1);
            Due.is("none ran", x.count(5), 0);
            x.act(0, 2, 5);
            Due.is("act " + wrong, x.act(0, wrong, 5), 0);
            Due.is("no trace then", x.trace(0), -1);
            Due.is("none ran then", x.count(5), 0);
        }
        for (int kind = 0; kind < 7; kind++) {
            for (int act : new int[] {-1, 3}) {
                x.room(1, kind, 0);
                Due.is("act " + act + " of kind " + kind, x.act(1, act, 5), 0);
                Due.is("none ran", x.count(5), 0);
            }
        }
    }

    private static void taken() {
        Due.term("1 LOWER, 2 ELDER, 3 TALL under ROOM; 4 BOTH under LOWER; 5 TURNING under ELDER; 6 SMALL under TALL;");
        int[][] kinds = {{0}, {1, 0}, {2, 0}, {3, 0}, {4, 1, 0}, {5, 2, 0}, {6, 3, 0}};
        for (int kind = 0; kind < 7; kind++) {
            MiddleSpeaks x = new MiddleSpeaks();
            x.room(1, kind, 0);
            for (int k = 0; k < 7; k++) {
                boolean isSo = false;
                for (int above : kinds[kind]) {
                    isSo |= above == k;
                }
                Due.is("kind " + kind + " for " + k, x.taken(1, k), isSo ? kind : -12);
            }
        }
    }

    private static void refusedTaken() {
        MiddleSpeaks x = new MiddleSpeaks();
        Due.promise(30, "A ROOM taken for one of KIND k (0 .. 6), or one under that: its KIND.");
        x.room(0, 4, 0);
        x.room(2, 6, 0);
        Due.is("that kind", x.taken(0, 4), 4);
        Due.is("one above", x.taken(0, 1), 4);
        Due.is("two above", x.taken(2, 0), 6);
        Due.promise(30, "BAD: k;");
        for (int wrong : Due.beside(0, 6)) {
            Due.is("k " + wrong, x.taken(0, wrong), -2);
            Due.is("k ahead of room " + wrong, x.taken(3, wrong), -2);
        }
        Due.promise(30, "NOTHING: no such ROOM;");
        for (int wrong : Due.beside(0, 2)) {
            Due.is("room " + wrong, x.taken(wrong, 0), -11);
            Due.is("room " + wrong + " ahead of another kind", x.taken(wrong, 6), -11);
        }
        Due.promise(30, "CAST.");
        Due.is("one beside", x.taken(0, 2), -12);
        Due.is("one beside that is last", x.taken(0, 6), -12);
        Due.is("one under it", x.taken(1, 1), -12);
    }

    private static void count() {
        MiddleSpeaks x = Due.withPeople(new int[] {1, 2}, new int[2], new int[2]);
        Due.promise(31, "How many: 0 PEOPLE, 1 HOUSES, 2 rows of SPOKEN, 3 of the BOOK, 4 bytes of THE TEXT, "
            + "5 bodies that ran in the latest act() (all, kept or not).");
        Due.house(x, "same 1", 0);
        Due.house(x, "same 2", 1);
        Due.house(x, "same 3", 2);
        x.spoken(1, 0);
        for (int i = 0; i < 5; i++) {
            x.book(1);
        }
        Due.feed(x, "price");
        x.feed(' ');
        x.room(0, 1, 0);
        x.act(0, 2, 1);
        int[] due = {2, 3, 1, 5, 6, 4};
        for (int what = 0; what < 6; what++) {
            Due.is("count " + what, x.count(what), due[what]);
        }
        Due.promise(31, "BAD.");
        for (int wrong : Due.beside(0, 5)) {
            Due.is("count " + wrong, x.count(wrong), -2);
        }
    }
}
