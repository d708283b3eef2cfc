/** Promises 25 to 35. */
final class JudgingImageActsTapesTest {
    private static final int MIN = Integer.MIN_VALUE, MAX = Integer.MAX_VALUE;
    private static final int[] ODD_TAPES = {-1, 6, MIN, MAX};

    public static void main(String[] args) {
        judge();
        image();
        undo();
        imageKeepsHouse();
        actsOfEachKind();
        actWraps();
        noAct();
        taken();
        count();
        tape();
        item();
        read();
        shift();
        Due.end();
    }

    /** Promise 25. */
    private static void judge() {
        MiddleSpeaks x = new MiddleSpeaks();
        Due.is("nobody, nothing", x.judge(0, -7), -5);
        x.tape(0, 2, 4);
        Due.is("nobody", x.judge(0, 9), -5);
        x.tape(1, 3, 4);
        Due.is("nobody, but of longs", x.judge(1, 0), -12);
        x.person(1, 1, 1);
        x.person(1, 1, 1);
        x.person(1, 1, 1);
        x.learn(0, 5);
        x.learn(2, 255);
        Due.is("0 knows otherwise", x.judge(0, 0), 0);
        x.item(0, 1, 5);
        x.item(0, 3, 255);
        Due.is("from 1 on all", x.judge(0, 1), -5);
        Due.is("from 0 on 0", x.judge(0, 0), 0);
        x.item(0, 3, 254);
        Due.is("2", x.judge(0, 1), 2);
        x.item(0, 2, 1);
        Due.is("1", x.judge(0, 1), 1);
        x.item(0, 3, 5);
        Due.is("the row ends behind one", x.judge(0, 3), 101);
        x.item(0, 2, 5);
        x.item(0, 3, 0);
        Due.is("the row ends behind two", x.judge(0, 2), 102);
        for (int i : new int[] {-1, 4, 5, MIN, MAX, MAX - 1}) {
            Due.is("from " + i, x.judge(0, i), 100);
            Due.is("of nothing from " + i, x.judge(5, i), 100);
            Due.is("of longs from " + i, x.judge(1, i), -12);
        }
        x.tape(2, 2, 0);
        Due.is("an empty row", x.judge(2, 0), 100);
        for (int sort : new int[] {0, 1, 3, 4}) {
            x.tape(3, sort, 9);
            Due.is("of sort " + sort, x.judge(3, 0), -12);
        }
        for (int wrong : ODD_TAPES) {
            Due.is("tape " + wrong, x.judge(wrong, 0), -1);
        }
    }

    /** Promise 26. */
    private static void image() {
        MiddleSpeaks x = new MiddleSpeaks();
        Due.is("of nobody", x.image(), 0);
        x.person(1, 2, 0);
        x.person(1, 2, 0);
        x.learn(0, 3);
        Due.is("back to nobody", x.undo(), 0);
        Due.is("none", x.count(0), 0);
        Due.is("none of", x.of(0, 0), -1);
        Due.is("as the first again", x.person(3, 4, 1), 0);
        Due.is("knows nothing", x.of(0, 3), 0);
        Due.is("of one", x.image(), 1);
        x.person(1, 2, 0);
        Due.is("the newer image", x.undo(), 1);
    }

    /** Promise 27. */
    private static void undo() {
        MiddleSpeaks x = Due.withPeople(new int[] {10, 20, 30}, new int[] {4, 5, 6}, new int[] {0, 1, 3});
        Due.is("none", x.undo(), -3);
        x.learn(1, 77);
        x.room(0, 1, 3);
        x.room(2, 6, 9);
        Due.house(x, "price 40 p=2;same 2", 0);
        x.come(2, 0);
        x.spoken(7, 1);
        x.book(12);
        x.book(1);
        Due.is("taken", x.image(), 3);
        for (int round = 0; round < 2; round++) {
            x.person(40, 40, 2);
            x.learn(1, 3);
            x.learn(0, 1);
            x.room(0, 5, 5);
            x.room(2, 2, 2);
            x.come(1, 2);
            x.come(0, 3);
            x.spoken(1, 0);
            x.spoken(-1, 0);
            x.spoken(8, 3);
            x.book(-1);
            x.book(44);
            Due.house(x, "same 9", 1 + round);
            x.tape(1, 2, 3);
            Due.feed(x, "sa");
            x.act(1, 1, 1);
            Due.is("as it was", x.undo(), 3);
            Due.is("people", x.count(0), 3);
            Due.is("knows", x.of(1, 3) + 1000 * x.of(0, 3), 77);
            Due.is("places", x.of(0, 2) + 10 * x.of(1, 2) + 100 * x.of(2, 2), 10);
            Due.is("kinds", x.inside(0, 0) + 10 * x.inside(1, 0) + 100 * x.inside(2, 0), 601);
            Due.is("vs", x.inside(0, 1) + 10 * x.inside(1, 1) + 100 * x.inside(2, 1), 903);
            Due.is("comings", x.told(1), 1);
            Due.is("cost", x.told(2), 41);
            Due.is("rows", x.count(2), 1);
            Due.is("the row", x.fits(), 2);
            Due.is("book", x.count(3), 2);
            Due.is("what is in it", x.readBook(), 1);
            Due.is("which house holds", x.told(0), 2);
            Due.is("houses stay", x.count(1), 2 + round);
            Due.is("the text stays", x.count(4), 2);
            Due.is("the tape stays", x.read(1, 2), 0);
            Due.is("the trace stays", x.trace(1), 10);
            x.house();
        }
    }

    private static void imageKeepsHouse() {
        MiddleSpeaks x = Due.withPeople(new int[] {1}, new int[1], new int[1]);
        x.image();
        Due.house(x, "price 5 p=0;same 3", 0);
        x.undo();
        Due.is("none held", x.told(0), 0);
        Due.is("no price", x.coming(0, 1, 0), 1);
        Due.house(x, "same 4", 1);
        Due.is("the second", x.told(0), 4);
    }

    /** Promises 28 and 29: in a room of number 2, v 5, x 7; what is answered, then the bodies. */
    private static void actsOfEachKind() {
        act(0, 0, 9, 10);
        act(0, 1, 4, 11, 10);
        act(0, 2, 8, 12, 11, 10);
        act(1, 0, 9, 10);
        act(1, 1, 4 ^ 6, 20, 11, 10);
        act(1, 2, (4 ^ 6) * 2, 12, 20, 11, 10);
        act(2, 0, 23, 30, 10);
        act(2, 1, 18, 11, 30, 10);
        act(2, 2, 36, 12, 11, 30, 10);
        act(3, 0, 9, 10);
        act(3, 1, 4, 11, 10);
        act(3, 2, 8 + (3 - 5), 40, 12, 11, 10, 11, 10);
        act(4, 0, -9, 50, 10);
        act(4, 1, (-10 - 5) ^ 6, 51, 20, 11, 50, 10);
        act(4, 2, ((-10 - 5) ^ 6) * 2, 12, 51, 20, 11, 50, 10);
        act(5, 0, 23, 30, 10);
        act(5, 1, 18, 11, 30, 10);
        act(5, 2, (15 + 2 - 5) * 2, 60, 12, 11, 30, 10);
        act(6, 0, 9 ^ 5, 71, 10);
        act(6, 1, (9 ^ 5) - 5 + 4, 70, 11, 71, 10, 10);
        act(6, 2, ((9 ^ 5) - 1) * 2 + ((3 ^ 5) - 1), 40, 12, 70, 11, 71, 10, 10, 70, 11, 71, 10, 10);
    }

    private static void act(int kind, int act, int want, int... bodies) {
        MiddleSpeaks x = new MiddleSpeaks();
        x.room(2, kind, 5);
        String call = "kind " + kind + ", act " + act;
        Due.is(call, x.act(2, act, 7), want);
        Due.is(call + ": how many ran", x.count(5), bodies.length);
        for (int i = 0; i < bodies.length; i++) {
            Due.is(call + ": body " + i, x.trace(i), bodies[i]);
        }
        for (int wrong : new int[] {-1, bodies.length, 20, MIN, MAX}) {
            Due.is(call + ": body " + wrong, x.trace(wrong), -1);
        }
    }

    private static void actWraps() {
        MiddleSpeaks x = new MiddleSpeaks();
        Due.is("above the most", x.act(1, 0, MAX), MIN);
        x.room(0, 0, 9);
        Due.is("below the least", x.act(0, 1, MIN), MAX - 8);
        x.room(0, 2, 0);
        Due.is("three times the most", x.act(0, 0, MAX), MAX - 2);
        x.room(0, 0, 0);
        Due.is("twice the least", x.act(0, 2, MIN), 0);
        x.room(0, 4, 0);
        Due.is("less the least", x.act(0, 0, MIN), MIN);
        x.room(2, 5, 0);
        Due.is("the least less 2, by three", x.act(2, 2, MIN), ((MAX - 1) * 3 + 2) * 2);
    }

    private static void noAct() {
        MiddleSpeaks x = new MiddleSpeaks();
        for (int wrong : new int[] {-1, 3, MIN, MAX}) {
            x.act(0, 2, 5);
            Due.is("there is a trace", x.trace(0), 12);
            Due.is("room " + wrong, x.act(wrong, 0, 5), 0);
            Due.is("no trace", x.trace(0), -1);
            Due.is("none ran", x.count(5), 0);
            x.act(0, 2, 5);
            Due.is("act " + wrong, x.act(0, wrong, 5), 0);
            Due.is("no trace then", x.trace(0), -1);
            Due.is("none ran then", x.count(5), 0);
        }
    }

    /** Promise 30. */
    private static void taken() {
        int[][] kinds = {{0}, {1, 0}, {2, 0}, {3, 0}, {4, 1, 0}, {5, 2, 0}, {6, 3, 0}};
        for (int kind = 0; kind < 7; kind++) {
            MiddleSpeaks x = new MiddleSpeaks();
            x.room(1, kind, 0);
            for (int k = 0; k < 7; k++) {
                boolean isSo = false;
                for (int above : kinds[kind]) {
                    isSo |= above == k;
                }
                Due.is("kind " + kind + " for " + k, x.taken(1, k), isSo ? kind : -12);
            }
        }
        MiddleSpeaks x = new MiddleSpeaks();
        for (int wrong : new int[] {-1, 7, MIN, MAX}) {
            Due.is("k " + wrong, x.taken(0, wrong), -2);
            Due.is("k ahead of room " + wrong, x.taken(3, wrong), -2);
        }
        for (int wrong : new int[] {-1, 3, MIN, MAX}) {
            Due.is("room " + wrong, x.taken(wrong, 0), -11);
        }
    }

    /** Promise 31. */
    private static void count() {
        MiddleSpeaks x = Due.withPeople(new int[] {1, 2}, new int[2], new int[2]);
        Due.house(x, "same 1", 0);
        Due.house(x, "same 2", 1);
        Due.house(x, "same 3", 2);
        x.spoken(1, 0);
        for (int i = 0; i < 5; i++) {
            x.book(1);
        }
        Due.feed(x, "price");
        x.feed(' ');
        x.act(0, 2, 1);
        int[] due = {2, 3, 1, 5, 6, 3};
        for (int what = 0; what < 6; what++) {
            Due.is("count " + what, x.count(what), due[what]);
        }
        for (int wrong : new int[] {-1, 6, MIN, MAX}) {
            Due.is("count " + wrong, x.count(wrong), -2);
        }
    }

    /** Promise 32. */
    private static void tape() {
        MiddleSpeaks x = new MiddleSpeaks();
        Due.is("the longest", x.tape(5, 3, 60), 1);
        Due.is("its last", x.read(5, 59), 0);
        Due.is("behind it", x.read(5, 60), MiddleSpeaks.NO);
        x.item(5, 59, 7);
        Due.is("61", x.tape(5, 3, 61), -2);
        Due.is("the most", x.tape(5, 3, MAX), -2);
        Due.is("below 0", x.tape(5, 3, -1), -14);
        Due.is("the least", x.tape(5, 3, MIN), -14);
        for (int wrong : new int[] {-2, 5, MIN, MAX}) {
            Due.is("sort " + wrong, x.tape(5, wrong, 3), -2);
            Due.is("sort ahead of size " + wrong, x.tape(5, wrong, -3), -2);
        }
        for (int wrong : ODD_TAPES) {
            Due.is("tape " + wrong, x.tape(wrong, 0, 3), -1);
            Due.is("tape ahead of all " + wrong, x.tape(wrong, 9, -3), -1);
            Due.is("tape ahead of nothing " + wrong, x.tape(wrong, -1, 0), -1);
        }
        Due.is("nothing changed", x.read(5, 59), 7);
        Due.is("anew", x.tape(5, 3, 60), 1);
        Due.is("is all 0", x.read(5, 59), 0);
        Due.is("of none", x.tape(5, 0, 0), 1);
        Due.is("has no place", x.item(5, 0, 1), -13);
        for (int n : new int[] {-1, 61, MIN, MAX}) {
            Due.is("nothing, " + n, x.tape(5, -1, n), 1);
            Due.is("holds nothing", x.item(5, 0, 1), -11);
        }
    }

    /** Promise 33. */
    private static void item() {
        MiddleSpeaks x = new MiddleSpeaks();
        long[] put = {0, 1, -1, 127, 128, 255, 256, 32767, 32768, 65536, 1L << 31, 1L << 32, Long.MIN_VALUE, Long.MAX_VALUE};
        for (int sort = 0; sort < 5; sort++) {
            x.tape(sort, sort, 3);
            for (long v : put) {
                long[] due = {(byte) v, (short) v, (int) v, v, v == 0 ? 0 : 1};
                Due.is("puts", x.item(sort, 1, v), 1);
                Due.is("sort " + sort + " of " + v, x.read(sort, 1), due[sort]);
            }
            Due.is("beside it", x.read(sort, 0) + x.read(sort, 2), 0);
            for (int wrong : new int[] {-1, 3, MIN, MAX}) {
                Due.is("place " + wrong, x.item(sort, wrong, 1), -13);
            }
        }
        for (int wrong : ODD_TAPES) {
            Due.is("tape " + wrong, x.item(wrong, 0, 1), -1);
        }
        Due.is("nothing", x.item(5, 0, 1), -11);
        Due.is("nothing ahead of place", x.item(5, -1, 1), -11);
    }

    /** Promise 34. */
    private static void read() {
        MiddleSpeaks x = new MiddleSpeaks();
        x.tape(0, 3, 2);
        x.item(0, 1, Long.MIN_VALUE + 1);
        Due.is("item", x.read(0, 1), Long.MIN_VALUE + 1);
        for (int wrong : new int[] {-1, 2, 59, 60, MIN, MAX}) {
            Due.is("place " + wrong, x.read(0, wrong), MiddleSpeaks.NO);
        }
        for (int wrong : ODD_TAPES) {
            Due.is("tape " + wrong, x.read(wrong, 0), MiddleSpeaks.NO);
        }
        Due.is("nothing", x.read(1, 0), MiddleSpeaks.NO);
        x.tape(0, -1, 0);
        Due.is("nothing any more", x.read(0, 1), MiddleSpeaks.NO);
    }

    /** Promise 35. */
    private static void shift() {
        MiddleSpeaks x = new MiddleSpeaks();
        x.tape(0, 1, 6);
        x.tape(1, 1, 4);
        x.tape(2, 2, 9);
        for (int i = 0; i < 6; i++) {
            x.item(0, i, i + 1);
        }
        Due.is("forward", x.shift(0, 0, 0, 2, 4), 4);
        row(x, 0, 1, 2, 1, 2, 3, 4);
        Due.is("back", x.shift(0, 2, 0, 1, 4), 4);
        row(x, 0, 1, 1, 2, 3, 4, 4);
        Due.is("to another", x.shift(0, 1, 1, 1, 3), 3);
        row(x, 1, 0, 1, 2, 3);
        Due.is("none at the ends", x.shift(0, 6, 1, 4, 0), 0);
        Due.is("all", x.shift(1, 0, 0, 2, 4), 4);
        row(x, 0, 1, 1, 0, 1, 2, 3);
        int[][] beyond = {{-1, 0, 0}, {0, -1, 0}, {0, 0, -1}, {0, 0, 5}, {3, 0, 4}, {0, 2, 3}, {7, 0, 0}, {0, 5, 0},
            {MAX, 0, 1}, {1, 0, MAX}, {0, MAX, 1}, {MAX, MAX, MAX}, {MIN, 0, 1}, {0, 0, MIN}};
        for (int[] p : beyond) {
            Due.is("from " + p[0] + " to " + p[1] + ", " + p[2], x.shift(0, p[0], 1, p[1], p[2]), -13);
        }
        Due.is("unlike sorts", x.shift(0, 0, 2, 0, 1), -12);
        Due.is("unlike sorts ahead of place", x.shift(2, -1, 0, 0, -1), -12);
        Due.is("from nothing", x.shift(5, -1, 0, 0, 1), -11);
        Due.is("to nothing", x.shift(0, 0, 5, 0, 1), -11);
        Due.is("nothing to nothing", x.shift(5, 0, 5, 0, 0), -11);
        for (int wrong : ODD_TAPES) {
            Due.is("from tape " + wrong, x.shift(wrong, 0, 5, 0, 1), -1);
            Due.is("to tape " + wrong, x.shift(5, 0, wrong, 0, 1), -1);
        }
        row(x, 0, 1, 1, 0, 1, 2, 3);
        row(x, 1, 0, 1, 2, 3);
    }

    private static void row(MiddleSpeaks x, int tape, int... due) {
        for (int i = 0; i < due.length; i++) {
            Due.is("tape " + tape + ", item " + i, x.read(tape, i), due[i]);
        }
    }
}
