/** Promises 19 to 24. */
final class VotesAgesLotsBooksTest {
    private static final int MIN = Integer.MIN_VALUE, MAX = Integer.MAX_VALUE;

    public static void main(String[] args) {
        votes();
        spoken();
        fits();
        lot();
        lotAmongBars();
        book();
        readBook();
        Due.end();
    }

    private static MiddleSpeaks five() {
        return Due.withPeople(new int[] {10, 20, 30, 40, 50}, new int[] {5, 4, 3, 2, 1}, new int[] {0, 0, 0, 1, 3});
    }

    /** Promise 19. */
    private static void votes() {
        MiddleSpeaks x = five();
        Due.is("none", x.votes(0, 7), 0);
        Due.is("nobody there", x.votes(2, 7), 0);
        x.learn(0, 128);
        x.learn(3, 1);
        x.learn(4, 128);
        Due.is("one of three", x.votes(0, 7), 0);
        x.learn(2, 128);
        Due.is("two of three", x.votes(0, 7), 1);
        Due.is("another thing", x.votes(0, 6), 0);
        x.come(3, 0);
        Due.is("two of four", x.votes(0, 7), 0);
        x.come(1, 1);
        Due.is("two of three again", x.votes(0, 7), 1);
        Due.is("one of one, not", x.votes(1, 7), 0);
        for (int wrong : new int[] {-1, 3, MIN, MAX}) {
            Due.is("room " + wrong, x.votes(wrong, 7), -1);
        }
        for (int wrong : new int[] {-1, 8, 39, MIN, MAX}) {
            Due.is("thing " + wrong, x.votes(0, wrong), -1);
        }
    }

    /** Promise 20. */
    private static void spoken() {
        MiddleSpeaks x = Due.withPeople(new int[4], new int[4], new int[4]);
        Due.is("one", x.spoken(8, 3), 1);
        Due.is("three", x.spoken(7, 2), 2);
        for (int wrong : new int[] {0, 3, 15, 16, 19, 32, -2, MIN, MAX}) {
            Due.is("set " + wrong, x.spoken(wrong, 0), -2);
            Due.is("set ahead of who " + wrong, x.spoken(wrong, 9), -2);
        }
        for (int wrong : new int[] {-1, 3, 4, 5, 32, 33, MIN, MAX}) {
            Due.is("who " + wrong, x.spoken(7, wrong), -1);
        }
        Due.is("two yet", x.count(2), 2);
        for (int i = 3; i <= 12; i++) {
            Due.is("row " + i, x.spoken(11, 1), i);
        }
        Due.is("full", x.spoken(11, 1), -4);
        Due.is("set ahead of full", x.spoken(3, 1), -2);
        Due.is("who ahead of full", x.spoken(11, 2), -1);
        Due.is("empties", x.spoken(-1, 77), 0);
        Due.is("none then", x.count(2), 0);
        Due.is("the first again", x.spoken(1, 0), 1);
        Due.is("nobody is there", new MiddleSpeaks().spoken(1, 0), -2);
        Due.is("nobody is there, emptied", new MiddleSpeaks().spoken(-1, 0), 0);
    }

    /** Promise 21. */
    private static void fits() {
        MiddleSpeaks x = new MiddleSpeaks();
        Due.is("nobody", x.fits(), -5);
        int[] orders = {1, 2, 6, 24, 120};
        for (int i = 0; i < 5; i++) {
            // ages that are alike, as those that they have do not matter
            x.person(50, 0, 3);
            Due.is("orders of " + (i + 1), x.fits(), orders[i]);
        }
        x.spoken(1, 0);
        Due.is("one is the middle of one", x.fits(), 120);
        x.spoken(7, 1);
        Due.is("a third", x.fits(), 40);
        x.spoken(7, 1);
        Due.is("the same row again", x.fits(), 40);
        x.spoken(31, 1);
        Due.is("1 at 2, 0 and 2 on unlike sides", x.fits(), 16);
        x.spoken(14, 3);
        Due.is("and 3 on the side of 2, the nearer", x.fits(), 4);
        x.spoken(7, 2);
        Due.is("against each other", x.fits(), 0);
        x.spoken(-1, 0);
        Due.is("none to go with", x.fits(), 120);
    }

    private static void odds(MiddleSpeaks x, int person, int n, long above, long below) {
        String call = "lot(" + person + ", " + n + ")";
        Due.is(call + " above", x.lot(person, n, 0), above);
        Due.is(call + " below", x.lot(person, n, 1), below);
    }

    /** Promise 22. */
    private static void lot() {
        MiddleSpeaks x = Due.withPeople(new int[] {10, 20}, new int[2], new int[2]);
        odds(x, 0, 0, 0, 1);
        // each of six comings leaves one alone in 0, and the other alone or out
        odds(x, 0, 1, 5, 6);
        odds(x, 1, 1, 5, 6);
        x.room(0, 1, 0);
        odds(x, 0, 0, 1, 1);
        odds(x, 1, 0, 0, 1);
        x.come(0, 1);
        x.come(1, 3);
        odds(x, 0, 0, 1, 1);
        odds(x, 1, 0, 0, 1);
        // 0 goes to 0, 2, out; 1 comes to 0, 1, 2: only out and two in 1 are none
        odds(x, 0, 1, 2, 3);
        odds(x, 1, 1, 1, 3);
        for (int wrong : new int[] {-1, 2, 5, MIN, MAX}) {
            Due.is("person " + wrong, x.lot(wrong, 0, 0), MiddleSpeaks.NO);
            Due.is("part " + wrong, x.lot(0, 0, wrong), MiddleSpeaks.NO);
        }
        for (int wrong : new int[] {-1, 3, MIN, MAX}) {
            Due.is("n " + wrong, x.lot(0, wrong, 0), MiddleSpeaks.NO);
        }
        MiddleSpeaks one = Due.withPeople(new int[] {10}, new int[1], new int[1]);
        odds(one, 0, 1, 2, 3);
        // out by the first (then in for sure), or one of two rooms (then two of three)
        odds(one, 0, 2, 7, 9);
    }

    private static void lotAmongBars() {
        MiddleSpeaks x = Due.withPeople(new int[] {10, 20, 30}, new int[3], new int[] {0, 0, 1});
        x.room(0, 5, 0);
        Due.house(x, "bar p<2;bar r=0;bar r=3", 0);
        // 2 alone goes to and fro, the turn is that of COMINGS
        odds(x, 0, 0, 1, 1);
        odds(x, 0, 1, 0, 1);
        odds(x, 0, 2, 1, 1);
        odds(x, 1, 1, 1, 1);
        Due.house(x, "bar p<9", 1);
        odds(x, 0, 1, 1, 1);
        odds(x, 0, 2, 1, 1);
        Due.house(x, "bar p<2;bar r<1;bar r=3;bar r=1", 2);
        // 2 comes to 2 and then no more, and COMINGS with it
        odds(x, 0, 2, 0, 1);
        odds(x, 1, 2, 1, 1);
    }

    /** Promise 23. */
    private static void book() {
        MiddleSpeaks x = new MiddleSpeaks();
        Due.is("nobody needs to be", x.book(47), 1);
        Due.is("least", x.book(0), 2);
        for (int wrong : new int[] {-2, 8, 9, 18, 49, 50, 57, 470, MIN, MAX}) {
            Due.is("said " + wrong, x.book(wrong), -1);
        }
        for (int i = 3; i <= 12; i++) {
            Due.is("row " + i, x.book(10 * (i % 5) + i % 8), i);
        }
        Due.is("full", x.book(0), -4);
        Due.is("thing ahead of full", x.book(8), -1);
        Due.is("count", x.count(3), 12);
        Due.is("empties", x.book(-1), 0);
        Due.is("then", x.count(3), 0);
        Due.is("again", x.book(11), 1);
    }

    /** Promise 24. */
    private static void readBook() {
        MiddleSpeaks x = Due.withPeople(new int[] {10, 20, 30, 40}, new int[4], new int[] {0, 0, 0, 0});
        x.room(0, 4, 0);
        Due.is("an empty book", x.readBook(), 0);
        x.learn(1, 1);
        x.learn(2, 2);
        x.book(10);
        x.book(20);
        x.book(21);
        x.book(11);
        Due.is("2 says what it heard of 1", x.readBook(), 4);
        x.book(0);
        x.book(10);
        Due.is("0 may not speak", x.readBook(), 4);
        Due.is("nothing is said", x.of(2, 3), 2);
        x.book(-1);
        x.book(20);
        x.book(10);
        Due.is("2 does not know it yet", x.readBook(), 0);
        x.book(-1);
        x.book(10);
        x.book(40);
        Due.is("4 is not there", x.readBook(), 1);
        x.come(1, 3);
        Due.is("out none says it", x.readBook(), 0);
        x.come(1, 1);
        Due.is("alone", x.readBook(), 1);
    }
}
