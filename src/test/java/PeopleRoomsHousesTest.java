/** Promises 1 to 9. */
final class PeopleRoomsHousesTest {
    private static final int MIN = Integer.MIN_VALUE, MAX = Integer.MAX_VALUE;

    public static void main(String[] args) {
        constants();
        newObject();
        person();
        of();
        learn();
        room();
        inside();
        kindsOfSpeakers();
        linesWithTies();
        feed();
        house();
        faults();
        conditions();
        told();
        Due.end();
    }

    private static void constants() {
        Due.is("NONE", MiddleSpeaks.NONE, -1);
        Due.is("BAD", MiddleSpeaks.BAD, -2);
        Due.is("STATE", MiddleSpeaks.STATE, -3);
        Due.is("FULL", MiddleSpeaks.FULL, -4);
        Due.is("NO", MiddleSpeaks.NO, Long.MIN_VALUE);
    }

    /** Promise 1. */
    private static void newObject() {
        MiddleSpeaks x = new MiddleSpeaks();
        for (int what = 0; what < 6; what++) {
            Due.is("new count " + what, x.count(what), 0);
        }
        for (int what = 0; what < 3; what++) {
            Due.is("new told " + what, x.told(what), 0);
        }
        for (int room = 0; room < 3; room++) {
            for (int what = 0; what < 4; what++) {
                Due.is("new inside " + room + ", " + what, x.inside(room, what), 0);
            }
        }
        for (int tape = 0; tape < 6; tape++) {
            Due.is("new read " + tape, x.read(tape, 0), MiddleSpeaks.NO);
        }
        Due.is("new of", x.of(0, 0), -1);
        Due.is("new undo", x.undo(), -3);
        Due.is("new trace", x.trace(0), -1);
    }

    /** Promise 2. */
    private static void person() {
        MiddleSpeaks x = new MiddleSpeaks();
        for (int wrong : new int[] {-1, 100, MIN, MAX}) {
            Due.is("age " + wrong, x.person(wrong, 0, 0), -2);
            Due.is("height " + wrong, x.person(0, wrong, 0), -2);
            Due.is("height ahead of place", x.person(0, wrong, 9), -2);
        }
        for (int wrong : new int[] {-1, 4, MIN, MAX}) {
            Due.is("place " + wrong, x.person(0, 0, wrong), -1);
        }
        Due.is("nobody came", x.count(0), 0);
        Due.is("least", x.person(0, 0, 0), 0);
        Due.is("most", x.person(99, 99, 3), 1);
        Due.is("third", x.person(1, 2, 1), 2);
        Due.is("fourth", x.person(1, 2, 2), 3);
        Due.is("fifth", x.person(1, 2, 3), 4);
        Due.is("full", x.person(1, 2, 3), -4);
        Due.is("age ahead of full", x.person(100, 2, 3), -2);
        Due.is("place ahead of full", x.person(1, 2, 4), -1);
        Due.is("five", x.count(0), 5);
    }

    /** Promise 3. */
    private static void of() {
        MiddleSpeaks x = Due.withPeople(new int[] {30, 50, 40, 20}, new int[] {1, 2, 3, 4}, new int[] {0, 0, 0, 3});
        Due.is("age", x.of(1, 0), 50);
        Due.is("height", x.of(1, 1), 2);
        Due.is("place", x.of(3, 2), 3);
        Due.is("knows", x.of(1, 3), 0);
        x.learn(1, 129);
        Due.is("knows then", x.of(1, 3), 129);
        Due.is("the youngest", x.of(0, 4), 0);
        Due.is("the eldest", x.of(1, 4), 0);
        Due.is("the middle one", x.of(2, 4), 1);
        Due.is("out", x.of(3, 4), 0);
        for (int wrong : new int[] {-1, 4, 5, MIN, MAX}) {
            Due.is("of person " + wrong, x.of(wrong, 0), -1);
        }
        for (int wrong : new int[] {-1, 5, MIN, MAX}) {
            Due.is("of what " + wrong, x.of(0, wrong), -1);
        }
    }

    /** Promise 4. */
    private static void learn() {
        MiddleSpeaks x = Due.withPeople(new int[] {1, 2}, new int[] {1, 2}, new int[] {0, 0});
        Due.is("learns all", x.learn(0, 255), 0);
        Due.is("learns less", x.learn(0, 6), 255);
        Due.is("just those", x.of(0, 3), 6);
        Due.is("not the other", x.of(1, 3), 0);
        Due.is("too many", x.learn(0, 256), -2);
        Due.is("below", x.learn(0, -1), -2);
        Due.is("nobody", x.learn(2, 1), -1);
        Due.is("nobody ahead of things", x.learn(-1, 256), -1);
        Due.is("as it was", x.learn(0, 0), 6);
    }

    /** Promise 5. */
    private static void room() {
        MiddleSpeaks x = new MiddleSpeaks();
        Due.is("first", x.room(2, 6, 9), 0);
        Due.is("then", x.room(2, 3, 0), 6);
        Due.is("kind", x.inside(2, 0), 3);
        Due.is("v", x.inside(2, 1), 0);
        for (int wrong : new int[] {-1, 3, MIN, MAX}) {
            Due.is("room " + wrong, x.room(wrong, 0, 0), -1);
        }
        for (int wrong : new int[] {-1, 7, MIN, MAX}) {
            Due.is("kind " + wrong, x.room(2, wrong, 0), -1);
            Due.is("kind ahead of v", x.room(2, wrong, 10), -1);
        }
        for (int wrong : new int[] {-1, 10, MIN, MAX}) {
            Due.is("v " + wrong, x.room(2, 1, wrong), -2);
        }
        Due.is("nothing changed", x.room(2, 5, 9), 3);
        Due.is("v 9", x.inside(2, 1), 9);
        Due.is("the others", x.inside(0, 0) + x.inside(1, 0), 0);
    }

    /** Promise 6. */
    private static void inside() {
        MiddleSpeaks x = Due.withPeople(new int[] {9, 8, 7, 6}, new int[] {1, 1, 1, 1}, new int[] {2, 3, 2, 2});
        Due.is("who", x.inside(2, 2), 13);
        Due.is("who speaks", x.inside(2, 3), 4);
        Due.is("nobody", x.inside(0, 2), 0);
        Due.is("nobody speaks", x.inside(0, 3), 0);
        for (int wrong : new int[] {-1, 3, MIN, MAX}) {
            Due.is("room " + wrong, x.inside(wrong, 2), -1);
        }
        for (int wrong : new int[] {-1, 4, MIN, MAX}) {
            Due.is("what " + wrong, x.inside(0, wrong), -1);
        }
    }

    /** ==== 2 for lines of 0 to 5, where age and height are both as the number. */
    private static void kindsOfSpeakers() {
        // by kind and v: who may speak of 0, 1, .. 5
        int[][] due = {
            {0, 0, 0, 1, 0, 2, 0, 4},
            {0, 7, 0, 1, 0, 2, 0, 4},
            {1, 0, 0, 1, 1, 2, 2, 4},
            {2, 0, 0, 1, 2, 4, 8, 16},
            {2, 2, 0, 0, 0, 1, 2, 4},
            {2, 5, 0, 0, 0, 0, 0, 0},
            {2, 9, 0, 0, 0, 0, 0, 0},
            {3, 4, 0, 1, 0, 2, 0, 4},
            {4, 0, 0, 1, 3, 2, 6, 4},
            {5, 0, 0, 1, 1, 1, 1, 1},
            {5, 3, 0, 1, 2, 1, 8, 8},
            {5, 9, 0, 1, 2, 1, 2, 16},
            {6, 0, 0, 1, 1, 1, 1, 1},
            {6, 2, 0, 1, 0, 1, 1, 1},
            {6, 3, 0, 1, 0, 2, 1, 1},
            {6, 5, 0, 1, 0, 2, 0, 4},
        };
        for (int[] row : due) {
            MiddleSpeaks x = new MiddleSpeaks();
            x.room(1, row[0], row[1]);
            for (int m = 0; m <= 5; m++) {
                Due.is("kind " + row[0] + ", v " + row[1] + ", of " + m, x.inside(1, 3), row[2 + m]);
                x.person(10 * m, 10 * m, 1);
            }
        }
    }

    private static void linesWithTies() {
        int[] ages = {40, 40, 40, 90, 10};
        int[] heights = {70, 70, 5, 70, 6};
        MiddleSpeaks x = Due.withPeople(ages, heights, new int[] {0, 0, 0, 0, 0});
        Due.is("by age: 4 0 1 2 3", x.inside(0, 3), 2);
        x.room(0, 3, 0);
        Due.is("by height: 2 4 0 1 3", x.inside(0, 3), 1);
        x.room(0, 2, 1);
        Due.is("the eldest but one", x.inside(0, 3), 4);
        x.room(0, 6, 4);
        Due.is("the smallest", x.inside(0, 3), 4);
        x.room(0, 5, 4);
        Due.is("turning by v", x.inside(0, 3), 8);
        x.come(0, 1);
        Due.is("turning goes on: (1 and 4) modulo 4 of 4 1 2 3", x.inside(0, 3), 2);
        x.come(0, 0);
        Due.is("turning: (2 and 4) modulo 5 of 4 0 1 2 3", x.inside(0, 3), 1);
        near();
    }

    private static void near() {
        MiddleSpeaks x = Due.withPeople(new int[] {20, 25, 31}, new int[] {20, 40, 30}, new int[] {0, 0, 0});
        Due.house(x, "same 4", 0);
        Due.is("4 is not near", x.inside(0, 3), 2);
        Due.house(x, "same 5", 1);
        Due.is("5 is near", x.inside(0, 3), 0);
        x.room(0, 3, 0);
        Due.is("by height it is not", x.inside(0, 3), 4);
        x.room(0, 2, 0);
        Due.is("the eldest is 6 from the next", x.inside(0, 3), 4);
        Due.house(x, "same 6", 2);
        Due.is("now near", x.inside(0, 3), 0);
        x.come(1, 3);
        Due.is("another room's do not count", x.inside(0, 3), 4);
        Due.house(x, "same 0", 3);
        x.person(31, 0, 0);
        Due.is("with 0 none is near", x.inside(0, 3), 8);
        Due.house(x, "same 1", 4);
        Due.is("like ages are", x.inside(0, 3), 0);
        MiddleSpeaks both = Due.withPeople(new int[] {10, 20, 30, 33}, new int[4], new int[4]);
        both.room(0, 4, 0);
        Due.is("both", both.inside(0, 3), 6);
        Due.house(both, "same 9;same 3", 0);
        Due.is("the lower alone", both.inside(0, 3), 2);
    }

    /** Promise 7. */
    private static void feed() {
        MiddleSpeaks x = new MiddleSpeaks();
        for (int wrong : new int[] {-1, 128, 255, MIN, MAX}) {
            Due.is("sign " + wrong, x.feed(wrong), -2);
        }
        Due.is("least", x.feed(0), 1);
        Due.is("most", x.feed(127), 2);
        for (int i = 3; i <= 100; i++) {
            Due.is("the " + i + "th", x.feed('a'), i);
        }
        Due.is("full", x.feed('a'), -4);
        Due.is("bad ahead of full", x.feed(128), -2);
        Due.is("100", x.count(4), 100);
    }

    /** Promise 8. */
    private static void house() {
        MiddleSpeaks x = new MiddleSpeaks();
        Due.is("no text", x.house(), -10);
        Due.house(x, "same 7", 0);
        Due.is("the text is empty then", x.count(4), 0);
        Due.is("no text again", x.house(), -10);
        Due.house(x, "same x", -15);
        Due.is("empty behind a fault, too", x.count(4), 0);
        Due.is("the one that held holds", x.told(0), 7);
        for (int i = 1; i < 6; i++) {
            Due.house(x, "same " + i, i);
            Due.is("the newest holds", x.told(0), i);
        }
        Due.feed(x, "same x");
        Due.is("full ahead of the fault", x.house(), -4);
        Due.is("the text stays", x.count(4), 6);
        Due.is("the fifth holds", x.told(0), 5);
        Due.is("six", x.count(1), 6);
    }

    private static void faults() {
        String ten = "same 1;same 2;same 3;same 4;same 5;same 6;same 7;same 8;same 9;same 0";
        reads(ten);
        fails(ten + ";", 69);
        fails(ten + ";same 1", 69);
        fails(ten + " ", 69);
        reads("price 7 p=1");
        reads("price 07 p=01");
        reads("bar !!!!p=1");
        reads("bar ((((p=1))))");
        reads("bar !(!(p=1)|p=2&r=3)&(p<1)|!!!!t>99");
        reads("bar !(!(p=1))&!(!(p=1))|((!!p=1))");
        fails("bar !!!!!p=1", 8);
        fails("bar (((((p=1)))))", 8);
        fails("bar !(!(((p=1)))", 8);
        fails("bar !(!p=1|!!p=2|!!!p=3)", 19);
        fails("bar !(!(!p=1))", 8);
        fails("bar (p=1", 8);
        fails("bar (p=1&", 9);
        fails("bar (p=1;", 8);
        fails("bar p=1)", 7);
        fails("bar (p=1))", 9);
        fails("bar ()", 5);
        fails("bar p=", 6);
        fails("bar p", 5);
        fails("bar ", 4);
        fails("bar", 3);
        fails("ba", 2);
        fails("b", 1);
        fails("", 0);
        fails("bar  p=1", 4);
        fails("bar p =1", 5);
        fails("bar p=1 ", 7);
        fails("bar p=1&", 8);
        fails("bar p=1|", 8);
        fails("bar p=1||r=1", 8);
        fails("bar p=123", 8);
        fails("bar p==1", 6);
        fails("bar b=1", 4);
        fails("bar 1 p=1", 4);
        fails("price p=1", 6);
        fails("price 1", 7);
        fails("price 12", 8);
        fails("price 123 p=1", 8);
        fails("price 1  p=1", 8);
        fails("price  1 p=1", 6);
        fails("price -1 p=1", 6);
        fails("worth 5 t=1;", 12);
        fails("worth 5 t=1;;", 12);
        fails(";", 0);
        fails(" same 1", 0);
        fails("Same 1", 0);
        fails("worst 1 t=1", 3);
        fails("samebar", 4);
        fails("pri 1 p=1", 3);
        fails("ba p=1", 2);
        fails("wort 1 t=1", 4);
        fails("sam 1", 3);
        fails("bar !", 5);
        fails("bar !&p=1", 5);
        fails("bar !|p=1", 5);
        fails("bar p=1|!)", 9);
        fails("bar (!)", 6);
        fails("same 1 p=1", 6);
        fails("same 123", 7);
        fails("same", 4);
        fails("same ", 5);
        StringBuilder wide = new StringBuilder("bar ");
        for (int i = 0; i < 24; i++) {
            wide.append(i % 2 == 0 ? "p=1|" : "r<2&");
        }
        fails(wide.toString(), 100);
        reads(wide.substring(0, 99));
        fails(wide.substring(0, 98), 98);
        fails(wide.substring(0, 99) + ";", 100);
    }

    private static void reads(String text) {
        Due.house(new MiddleSpeaks(), text, 0);
    }

    private static void fails(String text, int fault) {
        Due.house(new MiddleSpeaks(), text, -10 - fault);
    }

    /** What a price's condition holds for, looked at by a coming of person 2 (age 47) to place 1 of kind 4. */
    private static void conditions() {
        holds("p=2", 1, "p=1", 0, "p<3", 1, "p<2", 0, "p>1", 1, "p>2", 0);
        holds("r=1", 1, "r=2", 0, "a=4", 1, "a>4", 0, "a<5", 1, "a=47", 0);
        holds("n=2", 1, "n=1", 0, "n>1", 1, "k=4", 1, "k=9", 0, "t=99", 1, "t<99", 0);
        holds("!p=2", 0, "!p=1", 1, "!!p=2", 1);
        holds("p=1|r=1", 1, "p=1&r=1", 0, "p=2&r=1", 1, "p=1|r=2", 0);
        holds("p=2|p=1&p=1", 1, "p=1&p=1|p=2", 1, "(p=2|p=1)&p=1", 0, "p=1&(p=1|p=2)", 0);
        holds("!p=1&p=2", 1, "!p=2|p=2", 1, "!(p=2|p=1)", 0, "!(p=2&p=1)", 1, "!p=2&p=1", 0);
        holds("p=2&p=2&p=1|p=1|p=1&p=2", 0, "p=1|p=1|p=2", 1, "p=2&p=2&p=2", 1);
        holds("((!(p=1)&r=1))&!(r=3|!(a=4))", 1, "p=02&r=01", 1);
    }

    private static void holds(Object... some) {
        for (int i = 0; i < some.length; i += 2) {
            int[] ages = {10, 20, 47};
            MiddleSpeaks x = Due.withPeople(ages, new int[3], new int[] {1, 2, 0});
            x.room(1, 4, 0);
            Due.house(x, "price 9 " + some[i], 0);
            Due.is("price by " + some[i], x.coming(2, 1, 0), 1 + 9 * (Integer) some[i + 1]);
            Due.house(x, "bar " + some[i], 1);
            Due.is("barred by " + some[i], x.coming(2, 1, 1), (Integer) some[i + 1]);
        }
    }

    /** Promise 9. */
    private static void told() {
        MiddleSpeaks x = Due.withPeople(new int[] {1, 2}, new int[2], new int[] {0, 1});
        Due.house(x, "same 12;price 4 r=2;same 3", 0);
        Due.is("the last same", x.told(0), 3);
        x.come(0, 2);
        x.come(1, 0);
        Due.is("comings", x.told(1), 2);
        Due.is("cost", x.told(2), 6);
        Due.house(x, "bar p=9", 1);
        Due.is("without same", x.told(0), 0);
        for (int wrong : new int[] {-1, 3, MIN, MAX}) {
            Due.is("told " + wrong, x.told(wrong), -1);
        }
    }
}
