/** Votes, ages that fit, lots, books: promises 19 to 24. */
final class VotesAgesLotsBooksTest {
    private static final int[] NO_THINGS = Due.beside(0, 7);

    public static void main(String[] args) {
        run();
        Due.end();
    }

    static void run() {
        votes();
        refusedVotes();
        spoken();
        refusedSpoken();
        fits();
        fitsOfNone();
        lot();
        lotAmongBars();
        lotOfNoComing();
        refusedLot();
        book();
        refusedBook();
        readBook();
        readsAsItGoesOn();
        readsEachNumber();
    }

    private static MiddleSpeaks five() {
        return Due.withPeople(new int[] {10, 20, 30, 40, 50}, new int[] {5, 4, 3, 2, 1}, new int[] {0, 0, 0, 1, 3});
    }

    private static void votes() {
        MiddleSpeaks x = five();
        Due.term("VOTES of a THING in a ROOM: whether more of those who are in it KNOW it than not (1, 0).");
        Due.is("none of three", x.votes(0, 7), 0);
        Due.is("nobody there", x.votes(2, 7), 0);
        x.learn(0, 128);
        x.learn(3, 1);
        x.learn(4, 128);
        Due.is("one of three", x.votes(0, 7), 0);
        x.learn(2, 128);
        Due.is("two of three", x.votes(0, 7), 1);
        Due.is("another thing", x.votes(0, 6), 0);
        Due.is("the first thing, of one", x.votes(1, 0), 1);
        x.come(3, 0);
        Due.is("two of four: as many as not", x.votes(0, 7), 0);
        x.come(1, 1);
        Due.is("two of three again", x.votes(0, 7), 1);
        Due.is("one of one, not", x.votes(1, 7), 0);
        x.come(4, 2);
        Due.is("one of one", x.votes(2, 7), 1);
        x.come(1, 2);
        Due.is("one of two", x.votes(2, 7), 0);
        Due.promise(19, "VOTES.");
        x.learn(1, 255);
        Due.is("two of two", x.votes(2, 7), 1);
    }

    private static void refusedVotes() {
        MiddleSpeaks x = five();
        Due.promise(19, "NONE.");
        for (int wrong : Due.beside(0, 2)) {
            Due.is("room " + wrong, x.votes(wrong, 7), -1);
        }
        for (int wrong : NO_THINGS) {
            Due.is("thing " + wrong, x.votes(0, wrong), -1);
        }
        Due.is("32 more than a thing", x.votes(0, 39), -1);
    }

    private static void spoken() {
        MiddleSpeaks x = Due.withPeople(new int[5], new int[5], new int[5]);
        Due.term("SPOKEN, told by hand: rows (12 at most) of a set of PEOPLE (bits; an odd number of them), and who of it was the middle one by AGE.");
        Due.is("one", x.spoken(16, 4), 1);
        Due.is("three", x.spoken(25, 4), 2);
        Due.is("five", x.spoken(31, 4), 3);
        Due.promise(20, "SPOKEN: a row comes: how many there are (set -1: there are none then, 0, whatever the other is).");
        Due.is("three, as count tells", x.count(2), 3);
        Due.is("the same row again", x.spoken(31, 4), 4);
        int[] others = {0, -1, 5, Due.MIN, Due.MAX};
        for (int other : others) {
            Due.is("none then, " + other, x.spoken(-1, other), 0);
            Due.is("as count tells", x.count(2), 0);
            Due.is("none again, " + other, x.spoken(-1, other), 0);
            Due.is("the first one, then", x.spoken(1, 0), 1);
        }
        Due.is("where nobody is", new MiddleSpeaks().spoken(-1, 9), 0);
    }

    private static void refusedSpoken() {
        MiddleSpeaks x = Due.withPeople(new int[4], new int[4], new int[4]);
        x.spoken(8, 3);
        Due.promise(20, "BAD: set (bits of PEOPLE that are there, an odd number of them);");
        for (int wrong : new int[] {0, 3, 5, 10, 15, 16, 17, 19, 23, 32, 256, 65537, -2, -3, -8, Due.MIN, Due.MIN + 1, Due.MAX}) {
            Due.is("set " + wrong, x.spoken(wrong, 0), -2);
            Due.is("set ahead of who " + wrong, x.spoken(wrong, 9), -2);
        }
        Due.is("nobody is there", new MiddleSpeaks().spoken(1, 0), -2);
        Due.promise(20, "NONE: who (one of it);");
        for (int wrong : new int[] {-1, 3, 4, 5, 32, 33, 256, 65536, Due.MIN, Due.MAX}) {
            Due.is("who " + wrong, x.spoken(7, wrong), -1);
        }
        Due.is("one row yet", x.count(2), 1);
        Due.promise(20, "FULL: 12.");
        for (int i = 2; i <= 12; i++) {
            Due.is("row " + i, x.spoken(11, 1), i);
        }
        Due.is("a thirteenth", x.spoken(11, 1), -4);
        Due.is("set ahead of full", x.spoken(3, 1), -2);
        Due.is("who ahead of full", x.spoken(11, 2), -1);
        Due.is("12 yet", x.count(2), 12);
        Due.is("it can be emptied", x.spoken(-1, 77), 0);
        Due.is("the first again", x.spoken(1, 0), 1);
    }

    private static void fits() {
        MiddleSpeaks x = new MiddleSpeaks();
        Due.term("FITS: of all orders by AGE in which the PEOPLE might be (no two of one AGE) how many go with all rows");
        int[] orders = {1, 2, 6, 24, 120};
        for (int i = 0; i < 5; i++) {
            // ages that are alike, as those that they have do not matter
            x.person(50, 0, 3);
            Due.is("no row, orders of " + (i + 1), x.fits(), orders[i]);
        }
        x.spoken(1, 0);
        Due.is("one is the middle of one", x.fits(), 120);
        x.spoken(7, 1);
        Due.is("a third", x.fits(), 40);
        x.spoken(7, 1);
        Due.is("the same row again", x.fits(), 40);
        x.spoken(31, 1);
        Due.is("1 at 2, 0 and 2 on unlike sides", x.fits(), 16);
        x.spoken(14, 3);
        Due.is("and 3 on the side of 2, the nearer", x.fits(), 4);
        x.spoken(7, 2);
        Due.is("against each other", x.fits(), 0);
        x.spoken(-1, 0);
        Due.is("none to go with", x.fits(), 120);
        x.spoken(31, 4);
        Due.is("the middle one of five", x.fits(), 24);
    }

    private static void fitsOfNone() {
        Due.term("(-5: there are no PEOPLE).");
        MiddleSpeaks x = new MiddleSpeaks();
        Due.is("nobody", x.fits(), -5);
        x.image();
        x.person(1, 1, 1);
        Due.is("one", x.fits(), 1);
        x.spoken(1, 0);
        x.undo();
        Due.is("nobody again", x.fits(), -5);
        Due.promise(21, "FITS; -5.");
        Due.is("still nobody", x.fits(), -5);
        // all 12 rows are looked at, the last one, too
        MiddleSpeaks y = five();
        for (int i = 0; i < 11; i++) {
            y.spoken(7, 1);
        }
        Due.is("11 alike", y.fits(), 40);
        y.spoken(7, 0);
        Due.is("the twelfth is unlike", y.fits(), 0);
    }

    private static void odds(MiddleSpeaks x, int person, int n, long above, long below) {
        String call = "lot(" + person + ", " + n + ")";
        Due.is(call + " above", x.lot(person, n, 0), above);
        Due.is(call + " below", x.lot(person, n, 1), below);
    }

    private static void lot() {
        MiddleSpeaks x = Due.withPeople(new int[] {10, 20}, new int[2], new int[2]);
        Due.term("LOT: n times (0 .. 2) one of all COMINGS that are not BARRED is made, each as likely (none, if there is none): "
            + "ODDS that one MAY SPEAK where they are then: a fraction in lowest terms.");
        odds(x, 0, 0, 0, 1);
        // each of six comings leaves one alone in 0, and the other alone or out
        odds(x, 0, 1, 5, 6);
        odds(x, 1, 1, 5, 6);
        x.room(0, 1, 0);
        odds(x, 0, 0, 1, 1);
        odds(x, 1, 0, 0, 1);
        x.come(0, 1);
        x.come(1, 3);
        odds(x, 0, 0, 1, 1);
        odds(x, 1, 0, 0, 1);
        // 0 goes to 0, 2, out; 1 comes to 0, 1, 2: only out and two in 1 are none
        odds(x, 0, 1, 2, 3);
        odds(x, 1, 1, 1, 3);
        MiddleSpeaks one = Due.withPeople(new int[] {10}, new int[1], new int[1]);
        odds(one, 0, 1, 2, 3);
        Due.promise(22, "ODDS; part 0 above, 1 below the line.");
        // out by the first (then in for sure), or one of two rooms (then two of three)
        odds(one, 0, 2, 7, 9);
        // of 81 ways: 0 in (3) and on to another room (2), or another one to another room (4); or another one in (6), then 0 (2)
        MiddleSpeaks three = Due.withPeople(new int[] {10, 20, 30}, new int[3], new int[] {3, 3, 3});
        odds(three, 0, 2, 10, 27);
        odds(three, 0, 1, 1, 3);
    }

    private static void lotAmongBars() {
        MiddleSpeaks x = Due.withPeople(new int[] {10, 20, 30}, new int[3], new int[] {0, 0, 1});
        x.room(0, 5, 0);
        Due.house(x, "bar p<2;bar r=0;bar r=3", 0);
        // 2 alone goes to and fro, the turn is that of COMINGS
        odds(x, 0, 0, 1, 1);
        odds(x, 0, 1, 0, 1);
        odds(x, 0, 2, 1, 1);
        odds(x, 1, 1, 1, 1);
        x.come(2, 2);
        odds(x, 0, 0, 0, 1);
        odds(x, 0, 1, 1, 1);
        odds(x, 1, 2, 1, 1);
    }

    private static void lotOfNoComing() {
        MiddleSpeaks x = Due.withPeople(new int[] {10, 20, 30}, new int[3], new int[] {0, 0, 1});
        x.room(0, 5, 0);
        Due.house(x, "bar p<9", 0);
        // there is none, so COMINGS stay, and with them the turn
        odds(x, 0, 1, 1, 1);
        odds(x, 0, 2, 1, 1);
        odds(x, 1, 2, 0, 1);
        Due.house(x, "bar p<2;bar r<1;bar r=3;bar r=1", 1);
        // 2 comes to 2 and then there is no more
        odds(x, 0, 2, 0, 1);
        odds(x, 1, 2, 1, 1);
        odds(x, 2, 2, 1, 1);
    }

    private static void refusedLot() {
        MiddleSpeaks x = Due.withPeople(new int[] {10, 20}, new int[2], new int[2]);
        Due.promise(22, "NO.");
        for (int wrong : Due.beside(0, 1)) {
            Due.is("person " + wrong, x.lot(wrong, 0, 0), Long.MIN_VALUE);
            Due.is("part " + wrong, x.lot(0, 0, wrong), Long.MIN_VALUE);
        }
        for (int wrong : Due.beside(0, 2)) {
            Due.is("n " + wrong, x.lot(0, wrong, 0), Long.MIN_VALUE);
        }
        Due.is("nobody is there", new MiddleSpeaks().lot(0, 0, 0), Long.MIN_VALUE);
    }

    private static void book() {
        MiddleSpeaks x = new MiddleSpeaks();
        Due.promise(23, "What may be SAID comes to the BOOK: how many there are (-1: it is empty then, 0).");
        Due.is("nobody needs to be there", x.book(47), 1);
        Due.is("the least", x.book(0), 2);
        Due.is("the same again", x.book(0), 3);
        Due.is("three", x.count(3), 3);
        Due.is("empty then", x.book(-1), 0);
        Due.is("none", x.count(3), 0);
        Due.is("empty again", x.book(-1), 0);
        Due.is("the first", x.book(11), 1);
        for (int who = 0; who < 5; who++) {
            x.book(-1);
            for (int thing = 0; thing < 8; thing++) {
                Due.is("who " + who + ", thing " + thing, x.book(10 * who + thing), thing + 1);
            }
        }
    }

    private static void refusedBook() {
        MiddleSpeaks x = new MiddleSpeaks();
        x.book(7);
        Due.promise(23, "NONE: who (0 .. 4), thing;");
        for (int who = 0; who < 5; who++) {
            Due.is("thing 8", x.book(10 * who + 8), -1);
            Due.is("thing 9", x.book(10 * who + 9), -1);
        }
        for (int wrong : new int[] {-2, -8, -9, -10, -11, 50, 57, 58, 100, 256, 65536, Due.MIN, Due.MIN + 1, Due.MAX}) {
            Due.is("said " + wrong, x.book(wrong), -1);
        }
        Due.is("one yet", x.count(3), 1);
        Due.promise(23, "FULL: 12.");
        for (int i = 2; i <= 12; i++) {
            Due.is("row " + i, x.book(10 * (i % 5) + i % 8), i);
        }
        Due.is("a thirteenth", x.book(0), -4);
        Due.is("thing ahead of full", x.book(8), -1);
        Due.is("who ahead of full", x.book(50), -1);
        Due.is("12 yet", x.count(3), 12);
        Due.is("it can be emptied", x.book(-1), 0);
        Due.is("the first again", x.book(0), 1);
    }

    private static void readBook() {
        MiddleSpeaks x = Due.withPeople(new int[] {10, 20, 30, 40}, new int[4], new int[] {0, 0, 0, 0});
        Due.term("A BOOK told by hand: 10 times who, and a THING (12 at most): READ: how many of the first could be SAID one behind the other now.");
        Due.is("an empty book", x.readBook(), 0);
        x.room(0, 4, 0);
        x.learn(1, 1);
        x.learn(2, 2);
        x.book(10);
        x.book(20);
        x.book(21);
        x.book(11);
        Due.is("2 says what it heard of 1", x.readBook(), 4);
        x.book(0);
        x.book(10);
        Due.is("0 may not speak: what is behind does not count", x.readBook(), 4);
        Due.is("nothing is said", x.of(2, 3), 2);
        x.book(-1);
        x.book(20);
        x.book(10);
        Due.is("2 does not know it yet", x.readBook(), 0);
        x.book(-1);
        for (int i = 0; i < 12; i++) {
            x.book(i < 11 ? 10 : 22);
        }
        Due.is("11 of 12", x.readBook(), 11);
        x.learn(2, 4);
        Due.is("all 12", x.readBook(), 12);
    }

    private static void readsAsItGoesOn() {
        MiddleSpeaks x = Due.withPeople(new int[] {10, 20, 30, 40}, new int[4], new int[] {0, 0, 0, 0});
        Due.promise(24, "READ.");
        x.learn(1, 1);
        x.book(10);
        x.book(40);
        Due.is("no middle one of four", x.readBook(), 0);
        x.come(1, 3);
        Due.is("out nobody says it", x.readBook(), 0);
        x.come(1, 1);
        Due.is("alone; 4 is not there", x.readBook(), 1);
        x.person(1, 1, 2);
        Due.is("4 is there, and does not know it", x.readBook(), 1);
        x.learn(4, 1);
        Due.is("both in their rooms", x.readBook(), 2);
        MiddleSpeaks first = Due.withPeople(new int[] {30, 30, 40}, new int[3], new int[3]);
        first.room(0, 1, 0);
        first.learn(1, 128);
        first.book(17);
        first.book(7);
        Due.is("1 is the middle one, the lower of three", first.readBook(), 1);
        first.room(0, 4, 0);
        first.person(50, 0, 0);
        first.come(2, 1);
        first.come(2, 0);
        Due.is("1 and 2 of four", first.readBook(), 1);
        first.come(3, 3);
        first.come(2, 3);
        Due.is("1 tells 0, and 0 says it: both of two", first.readBook(), 2);
        // the house is looked at by the reading itself
        Due.house(first, "same 5", 0);
        Due.is("ages that are as one", first.readBook(), 0);
        Due.house(first, "price 1 p=0", 1);
        Due.is("as ahead of it", first.readBook(), 2);
        MiddleSpeaks out = new MiddleSpeaks();
        out.book(0);
        Due.is("nobody is there", out.readBook(), 0);
    }

    /** One of five is in a room, alone, and knows all; the others are out. */
    private static void readsEachNumber() {
        for (int who = 0; who < 5; who++) {
            int[] places = {3, 3, 3, 3, 3};
            places[who] = 2;
            MiddleSpeaks x = Due.withPeople(new int[5], new int[5], places);
            for (int any = 0; any < 5; any++) {
                x.learn(any, 255);
            }
            for (int thing = 0; thing < 8; thing++) {
                x.book(10 * who + thing);
            }
            Due.is("all things, of " + who, x.readBook(), 8);
            x.book(10 * ((who + 1) % 5));
            Due.is("not those who are out", x.readBook(), 8);
            x.learn(who, 127);
            Due.is("all but the last thing, of " + who, x.readBook(), 7);
        }
    }
}
