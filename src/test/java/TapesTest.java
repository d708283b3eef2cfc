/** Tapes: promises 32 to 35. */
final class TapesTest {
    private static final int[] NO_TAPES = Due.beside(0, 5);
    private static final long NO = Long.MIN_VALUE;

    public static void main(String[] args) {
        run();
        Due.end();
    }

    static void run() {
        newTapes();
        tape();
        refusedTape();
        item();
        itemsOfSorts();
        refusedItem();
        read();
        shift();
        shiftWithin();
        refusedShift();
    }

    private static void newTapes() {
        MiddleSpeaks x = new MiddleSpeaks();
        Due.term("TAPES 0 .. 5 hold nothing (at first), or a row of 0 bytes, 1 shorts, 2 ints, 3 longs, 4 booleans (items 0, 1).");
        for (int tape = 0; tape < 6; tape++) {
            Due.is("read of " + tape, x.read(tape, 0), NO);
            Due.is("item of " + tape, x.item(tape, 0, 1), -11);
        }
        for (int sort = 0; sort < 5; sort++) {
            Due.is("a row of sort " + sort, x.tape(5, sort, 2), 1);
            Due.is("its first", x.item(5, 0, -2), 1);
            Due.is("is", x.read(5, 0), sort == 4 ? 1 : -2);
            Due.is("its second is 0", x.read(5, 1), 0);
        }
    }

    private static void tape() {
        MiddleSpeaks x = new MiddleSpeaks();
        Due.promise(32, "A TAPE becomes a row of n (0 .. 60) of a sort, all 0, or holds nothing (sort -1: n does not matter): 1.");
        Due.is("the longest", x.tape(5, 3, 60), 1);
        for (int i = 0; i < 60; i++) {
            Due.is("item " + i, x.read(5, i), 0);
        }
        Due.is("behind it", x.read(5, 60), NO);
        x.item(5, 0, 6);
        x.item(5, 59, 7);
        Due.is("anew", x.tape(5, 3, 60), 1);
        Due.is("its first is 0", x.read(5, 0), 0);
        Due.is("its last is 0", x.read(5, 59), 0);
        Due.is("of one", x.tape(5, 0, 1), 1);
        Due.is("its only one", x.read(5, 0), 0);
        Due.is("no second", x.read(5, 1), NO);
        Due.is("of none", x.tape(5, 0, 0), 1);
        Due.is("it has no place", x.read(5, 0), NO);
        Due.is("but it is a row", x.item(5, 0, 1), -13);
        for (int n : new int[] {0, 1, 60, -1, 61, Due.MIN, Due.MAX}) {
            Due.is("a row", x.tape(4, 2, 3), 1);
            Due.is("nothing, " + n, x.tape(4, -1, n), 1);
            Due.is("holds nothing", x.item(4, 0, 1), -11);
            Due.is("nothing again", x.tape(4, -1, n), 1);
        }
        Due.is("another one is not changed", x.item(5, 0, 1), -13);
    }

    private static void refusedTape() {
        MiddleSpeaks x = new MiddleSpeaks();
        x.tape(5, 3, 60);
        x.item(5, 59, 7);
        Due.promise(32, "NONE: tape;");
        for (int wrong : NO_TAPES) {
            Due.is("tape " + wrong, x.tape(wrong, 0, 3), -1);
            Due.is("tape ahead of sort " + wrong, x.tape(wrong, 9, 3), -1);
            Due.is("tape ahead of size " + wrong, x.tape(wrong, 0, -3), -1);
            Due.is("tape ahead of nothing " + wrong, x.tape(wrong, -1, 0), -1);
        }
        Due.promise(32, "BAD: sort, n above 60;");
        for (int wrong : new int[] {-2, 5, 255, 256, 65536, Due.MIN, Due.MAX}) {
            Due.is("sort " + wrong, x.tape(5, wrong, 3), -2);
            Due.is("sort ahead of size " + wrong, x.tape(5, wrong, -3), -2);
        }
        for (int wrong : new int[] {61, 256, 65536, Due.MAX}) {
            Due.is("n " + wrong, x.tape(5, 3, wrong), -2);
        }
        Due.promise(32, "SIZE.");
        for (int wrong : new int[] {-1, -60, Due.MIN, Due.MIN + 1}) {
            Due.is("n " + wrong, x.tape(5, 3, wrong), -14);
        }
        Due.is("nothing changed", x.read(5, 59), 7);
    }

    private static void item() {
        MiddleSpeaks x = new MiddleSpeaks();
        Due.promise(33, "Item i of a TAPE becomes v (its lowest bits, as many as an item has; booleans: whether v is not 0): 1.");
        x.tape(0, 3, 3);
        x.tape(1, 3, 3);
        Due.is("the first", x.item(0, 0, 5), 1);
        Due.is("the last", x.item(0, 2, 7), 1);
        Due.is("0", x.read(0, 0), 5);
        Due.is("1", x.read(0, 1), 0);
        Due.is("2", x.read(0, 2), 7);
        Due.is("not another tape's", x.read(1, 0) + x.read(1, 2), 0);
        Due.is("anew", x.item(0, 2, -8), 1);
        Due.is("the newest", x.read(0, 2), -8);
    }

    private static void itemsOfSorts() {
        long[] put = {0, 1, -1, 127, 128, -128, -129, 255, 256, 32767, 32768, -32768, -32769, 65535, 65536, Due.MAX, 1L << 31, Due.MIN,
            Due.MIN - 1L, (1L << 32) - 1, 1L << 32, 1L << 63, Long.MAX_VALUE, 0x123456789abcdef0L};
        // by hand: what of each is there then
        long[][] due = {
            {0, 1, -1, 127, -128, -128, 127, -1, 0, -1, 0, 0, -1, -1, 0, -1, 0, 0, -1, -1, 0, 0, -1, -16},
            {0, 1, -1, 127, 128, -128, -129, 255, 256, 32767, -32768, -32768, 32767, -1, 0, -1, 0, 0, -1, -1, 0, 0, -1, -8464},
            {0, 1, -1, 127, 128, -128, -129, 255, 256, 32767, 32768, -32768, -32769, 65535, 65536, 2147483647, -2147483648, -2147483648,
                2147483647, -1, 0, 0, -1, -1698898192},
            put,
            {0, 1, 1, 1, 1, 1, 1, 1, 1, 1, 1, 1, 1, 1, 1, 1, 1, 1, 1, 1, 1, 1, 1, 1},
        };
        for (int sort = 0; sort < 5; sort++) {
            MiddleSpeaks x = new MiddleSpeaks();
            x.tape(sort, sort, 3);
            for (int i = 0; i < put.length; i++) {
                Due.is("puts", x.item(sort, 1, put[i]), 1);
                Due.is("sort " + sort + " of " + put[i], x.read(sort, 1), due[sort][i]);
                Due.is("beside it", x.read(sort, 0) + x.read(sort, 2), 0);
            }
        }
    }

    private static void refusedItem() {
        MiddleSpeaks x = new MiddleSpeaks();
        x.tape(0, 2, 3);
        x.item(0, 1, 9);
        Due.promise(33, "NONE;");
        for (int wrong : NO_TAPES) {
            Due.is("tape " + wrong, x.item(wrong, 0, 1), -1);
            Due.is("tape ahead of place " + wrong, x.item(wrong, -1, 1), -1);
        }
        Due.promise(33, "NOTHING;");
        Due.is("nothing", x.item(5, 0, 1), -11);
        Due.is("nothing ahead of place", x.item(5, -1, 1), -11);
        Due.promise(33, "PLACE.");
        for (int wrong : Due.beside(0, 2)) {
            Due.is("place " + wrong, x.item(0, wrong, 1), -13);
        }
        Due.is("far behind it", x.item(0, 59, 1), -13);
        x.tape(1, 2, 60);
        for (int wrong : Due.beside(0, 59)) {
            Due.is("place " + wrong + " of the longest", x.item(1, wrong, 1), -13);
        }
        Due.is("nothing changed", x.read(0, 0) + x.read(0, 2), 0);
        Due.is("as it was", x.read(0, 1), 9);
    }

    private static void read() {
        MiddleSpeaks x = new MiddleSpeaks();
        x.tape(0, 3, 2);
        x.item(0, 1, Long.MIN_VALUE + 1);
        Due.promise(34, "Item i of a TAPE.");
        Due.is("the first", x.read(0, 0), 0);
        Due.is("the last", x.read(0, 1), Long.MIN_VALUE + 1);
        Due.is("the most", x.item(0, 0, Long.MAX_VALUE), 1);
        Due.is("it", x.read(0, 0), Long.MAX_VALUE);
        Due.promise(34, "NO: no such TAPE, nothing there, no such place.");
        for (int wrong : NO_TAPES) {
            Due.is("tape " + wrong, x.read(wrong, 0), NO);
        }
        Due.is("nothing", x.read(1, 0), NO);
        for (int wrong : Due.beside(0, 1)) {
            Due.is("place " + wrong, x.read(0, wrong), NO);
        }
        x.tape(0, -1, 0);
        Due.is("nothing any more", x.read(0, 1), NO);
        Due.term("The constants: `NO = Long.MIN_VALUE`: There is no such number.");
        Due.is("NO", MiddleSpeaks.NO, NO);
    }

    private static void shift() {
        MiddleSpeaks x = new MiddleSpeaks();
        Due.promise(35, "n items of a TAPE from i on come to another one (or the same) from j on, as they all were before: n.");
        x.tape(0, 1, 6);
        x.tape(1, 1, 4);
        holds(x, 0, 1, 2, 3, 4, 5, 6);
        Due.is("to another", x.shift(0, 1, 1, 1, 3), 3);
        row(x, 1, 0, 2, 3, 4);
        row(x, 0, 1, 2, 3, 4, 5, 6);
        Due.is("up to both ends", x.shift(0, 4, 1, 2, 2), 2);
        row(x, 1, 0, 2, 5, 6);
        Due.is("all of the shorter one", x.shift(1, 0, 0, 2, 4), 4);
        row(x, 0, 1, 2, 0, 2, 5, 6);
        Due.is("one", x.shift(0, 0, 1, 3, 1), 1);
        row(x, 1, 0, 2, 5, 1);
        Due.is("none", x.shift(0, 2, 1, 1, 0), 0);
        Due.is("none at the ends", x.shift(0, 6, 1, 4, 0), 0);
        row(x, 1, 0, 2, 5, 1);
        for (int sort = 0; sort < 5; sort++) {
            x.tape(2, sort, 60);
            x.tape(3, sort, 60);
            x.item(2, 0, 1);
            x.item(2, 59, 1);
            Due.is("all 60 of sort " + sort, x.shift(2, 0, 3, 0, 60), 60);
            Due.is("the first", x.read(3, 0), 1);
            Due.is("the last", x.read(3, 59), 1);
            Due.is("between", x.read(3, 58), 0);
        }
    }

    private static void shiftWithin() {
        MiddleSpeaks x = new MiddleSpeaks();
        x.tape(0, 3, 6);
        holds(x, 0, 1, 2, 3, 4, 5, 6);
        Due.is("forward, over itself", x.shift(0, 0, 0, 1, 5), 5);
        row(x, 0, 1, 1, 2, 3, 4, 5);
        holds(x, 0, 1, 2, 3, 4, 5, 6);
        Due.is("back, over itself", x.shift(0, 1, 0, 0, 5), 5);
        row(x, 0, 2, 3, 4, 5, 6, 6);
        holds(x, 0, 1, 2, 3, 4, 5, 6);
        Due.is("beside itself", x.shift(0, 0, 0, 3, 3), 3);
        row(x, 0, 1, 2, 3, 1, 2, 3);
        Due.is("to where it is", x.shift(0, 0, 0, 0, 6), 6);
        row(x, 0, 1, 2, 3, 1, 2, 3);
    }

    private static void refusedShift() {
        MiddleSpeaks x = new MiddleSpeaks();
        x.tape(0, 1, 6);
        x.tape(1, 1, 4);
        x.tape(2, 2, 9);
        x.tape(3, 1, 0);
        holds(x, 0, 1, 2, 3, 4, 5, 6);
        Due.promise(35, "NONE: tapes;");
        for (int wrong : NO_TAPES) {
            Due.is("from tape " + wrong, x.shift(wrong, 0, 1, 0, 1), -1);
            Due.is("to tape " + wrong, x.shift(0, 0, wrong, 0, 1), -1);
            Due.is("from tape ahead of nothing " + wrong, x.shift(wrong, 0, 5, 0, 1), -1);
            Due.is("to tape ahead of nothing " + wrong, x.shift(5, 0, wrong, 0, 1), -1);
        }
        Due.promise(35, "NOTHING;");
        Due.is("from nothing", x.shift(5, 0, 0, 0, 1), -11);
        Due.is("to nothing", x.shift(0, 0, 5, 0, 1), -11);
        Due.is("nothing to itself", x.shift(5, 0, 5, 0, 0), -11);
        Due.is("nothing ahead of place", x.shift(5, -1, 0, 9, -1), -11);
        Due.promise(35, "CAST: of unlike sorts;");
        Due.is("shorts to ints", x.shift(0, 0, 2, 0, 1), -12);
        Due.is("ints to shorts", x.shift(2, 0, 0, 0, 0), -12);
        Due.is("unlike sorts ahead of place", x.shift(2, -1, 0, 0, -1), -12);
        Due.promise(35, "PLACE: n, i or j is below 0, or beyond either's end.");
        int[][] beyond = {{-1, 0, 0}, {0, -1, 0}, {0, 0, -1}, {0, 0, 5}, {3, 0, 4}, {0, 2, 3}, {7, 0, 0}, {0, 5, 0}, {6, 0, 1}, {0, 4, 1},
            {Due.MAX, 0, 1}, {1, 0, Due.MAX}, {0, Due.MAX, 1}, {Due.MAX, Due.MAX, Due.MAX}, {Due.MAX, 0, 0}, {0, Due.MAX, 0},
            {Due.MIN, 0, 1}, {0, Due.MIN, 1}, {0, 0, Due.MIN}, {Due.MIN, Due.MIN, Due.MIN}, {-1, -1, 2}, {5, 3, 2}, {5, 0, 2}, {0, 3, 2}};
        for (int[] p : beyond) {
            Due.is("from " + p[0] + " to " + p[1] + ", " + p[2], x.shift(0, p[0], 1, p[1], p[2]), -13);
        }
        Due.is("one from an empty row", x.shift(3, 0, 0, 0, 1), -13);
        Due.is("one to an empty row", x.shift(0, 0, 3, 0, 1), -13);
        Due.is("none of an empty row", x.shift(3, 0, 3, 0, 0), 0);
        row(x, 0, 1, 2, 3, 4, 5, 6);
        row(x, 1, 0, 0, 0, 0);
    }

    private static void holds(MiddleSpeaks x, int tape, int... items) {
        for (int i = 0; i < items.length; i++) {
            x.item(tape, i, items[i]);
        }
    }

    private static void row(MiddleSpeaks x, int tape, int... due) {
        for (int i = 0; i < due.length; i++) {
            Due.is("tape " + tape + ", item " + i, x.read(tape, i), due[i]);
        }
    }
}
