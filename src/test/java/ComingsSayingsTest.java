/** What a house says of comings and hearings, comings and sayings: promises 10 to 12. */
final class ComingsSayingsTest {
    /** 694 is the dearest that 100 bytes can say. */
    private static final String DEAREST =
        "price 99 p=0;price 99 p=0;price 99 p=0;price 99 p=0;price 99 p=0;price 99 p=0;price 99 p=0";

    public static void main(String[] args) {
        run();
        Due.end();
    }

    static void run() {
        letters();
        lettersOfHearing();
        prices();
        bars();
        worths();
        coming();
        refusedAsking();
        come();
        refusedComings();
        mostCost();
        say();
        refusedSayings();
    }

    /** Whether a letter stands for just this number in a coming of one to a place. */
    private static void stands(MiddleSpeaks x, char letter, int who, int place, int number) {
        String call = letter + " of " + who + " to " + place;
        Due.house(x, "bar " + letter + "=" + number, 0);
        Due.is(call + " is " + number, x.coming(who, place, 1), 1);
        Due.house(x, "bar " + letter + ">" + number, 1);
        Due.is(call + " is not more", x.coming(who, place, 1), 0);
        Due.house(x, "bar " + letter + "<" + number, 2);
        Due.is(call + " is not less", x.coming(who, place, 1), 0);
    }

    private static void letters() {
        Due.term("of one who comes into a PLACE, or hears in it, p their number, r the PLACE, a AGE by 10 (cut), n how many are there then "
            + "(that one, too), k the KIND of that ROOM (9: OUT), t the THING that is heard (99: of a coming).");
        int[] ages = {0, 9, 10, 19, 99};
        for (int who = 0; who < 5; who++) {
            stands(five(ages, 0), 'p', who, 1, who);
            stands(five(ages, 0), 'a', who, 1, ages[who] / 10);
        }
        for (int place = 0; place < 4; place++) {
            stands(five(ages, place == 0 ? 3 : 0), 'r', 2, place, place);
        }
        for (int others = 0; others < 5; others++) {
            MiddleSpeaks room = five(ages, 0), out = five(ages, 0);
            for (int who = 0; who < others; who++) {
                room.come(who, 2);
                out.come(who, 3);
            }
            stands(room, 'n', 4, 2, others + 1);
            stands(out, 'n', 4, 3, others + 1);
        }
        for (int kind = 0; kind < 7; kind++) {
            MiddleSpeaks x = five(ages, 0);
            x.room(0, (kind + 1) % 7, 0);
            x.room(1, kind, 0);
            stands(x, 'k', 3, 1, kind);
        }
        stands(five(ages, 0), 'k', 3, 3, 9);
        stands(five(ages, 0), 't', 3, 1, 99);
        stands(five(ages, 0), 't', 3, 3, 99);
    }

    private static MiddleSpeaks five(int[] ages, int place) {
        return Due.withPeople(ages, new int[5], new int[] {place, place, place, place, place});
    }

    private static void lettersOfHearing() {
        for (int thing = 0; thing < 8; thing++) {
            Due.is("thing " + thing, worthOf("worth 9 t=" + thing, thing), 9);
            Due.is("not above " + thing, worthOf("worth 9 t>" + thing, thing), 0);
            Due.is("not below " + thing, worthOf("worth 9 t<" + thing, thing), 0);
        }
        Due.is("not as of a coming", worthOf("worth 9 t=99", 7), 0);
        Due.is("the hearer", worthOf("worth 9 p=1", 7), 9);
        Due.is("not the one who says it", worthOf("worth 9 p=0", 7), 0);
        Due.is("the room", worthOf("worth 9 r=2", 7), 9);
        Due.is("the hearer's age", worthOf("worth 9 a=5", 7), 9);
        Due.is("how many are there", worthOf("worth 9 n=2", 7), 9);
        Due.is("the room's kind", worthOf("worth 9 k=1", 7), 9);
    }

    /** What is worth that person 0 (age 40) says a thing to 1 (age 59) in room 2, a lower one. */
    private static int worthOf(String house, int thing) {
        MiddleSpeaks x = Due.withPeople(new int[] {40, 59, 70}, new int[3], new int[] {2, 2, 0});
        x.room(2, 1, 0);
        x.learn(0, 255);
        Due.house(x, house, 0);
        return x.say(0, thing);
    }

    private static void prices() {
        MiddleSpeaks x = Due.withPeople(new int[] {19, 20, 35}, new int[] {1, 2, 3}, new int[] {0, 0, 3});
        Due.term("PRICE of a coming: 1, and the n of all price whose E holds, together.");
        Due.is("no house", x.coming(0, 1, 0), 1);
        Due.house(x, "price 5 a=1;price 20 k=9&n>1;bar r=2;worth 50 p<9;price 9 t=99;price 0 p=0;same 40", 0);
        Due.is("two hold", x.coming(0, 1, 0), 15);
        Due.is("all hold", x.coming(0, 3, 0), 35);
        Due.is("one holds", x.coming(2, 1, 0), 10);
        Due.is("of one barred", x.coming(1, 2, 0), 10);
        Due.house(x, "price 5 p=9;bar p=9", 1);
        Due.is("none holds", x.coming(0, 1, 0), 1);
        Due.house(x, DEAREST, 2);
        Due.is("the dearest", x.coming(0, 1, 0), 694);
        Due.house(x, "price 5 p=0;price 5 p=0", 3);
        Due.is("one told twice", x.coming(0, 1, 0), 11);
    }

    private static void bars() {
        MiddleSpeaks x = Due.withPeople(new int[] {19, 20, 35}, new int[] {1, 2, 3}, new int[] {0, 0, 3});
        Due.term("BARRED: a coming, if E of some bar holds.");
        Due.is("no house", x.coming(0, 1, 1), 0);
        Due.house(x, "bar p=1;price 9 p=0;worth 9 p=0;bar r=2;same 9", 0);
        Due.is("none holds", x.coming(0, 1, 1), 0);
        Due.is("the first holds", x.coming(1, 1, 1), 1);
        Due.is("the second holds", x.coming(0, 2, 1), 1);
        Due.is("both hold", x.coming(1, 2, 1), 1);
        Due.house(x, "price 9 p<9", 1);
        Due.is("no bar", x.coming(1, 2, 1), 0);
    }

    private static void worths() {
        Due.term("WORTH of a THING's being heard by one in a ROOM: the n of all worth whose E holds, together.");
        Due.is("none holds", worthOf("worth 9 p=2;price 50 p<9;bar p<9;same 5", 3), 0);
        Due.is("one holds", worthOf("worth 9 p=2;worth 7 p=1;worth 5 t=2", 3), 7);
        Due.is("all hold", worthOf("worth 9 p=1;worth 70 r=2;worth 6 t=3", 3), 85);
        Due.is("the dearest", worthOf(DEAREST.replace("price", "worth").replace("p=0", "p>0"), 3), 693);
        Due.is("without worth", worthOf("price 9 p<9", 3), 0);
    }

    private static void coming() {
        MiddleSpeaks x = Due.withPeople(new int[] {19, 20}, new int[] {1, 2}, new int[] {0, 3});
        Due.promise(10, "Of a coming of one to another PLACE what 0 PRICE, 1 whether BARRED.");
        Due.house(x, "price 3 p=0;bar p=1&r=2", 0);
        Due.is("price", x.coming(0, 3, 0), 4);
        Due.is("not barred", x.coming(0, 3, 1), 0);
        Due.is("barred", x.coming(1, 2, 1), 1);
        Due.is("the price of one barred", x.coming(1, 2, 0), 1);
    }

    private static void refusedAsking() {
        MiddleSpeaks x = Due.withPeople(new int[] {19, 20}, new int[] {1, 2}, new int[] {0, 3});
        Due.house(x, "bar p<9", 0);
        Due.promise(10, "NONE;");
        for (int wrong : Due.beside(0, 1)) {
            Due.is("person " + wrong, x.coming(wrong, 1, 0), -1);
            Due.is("what " + wrong, x.coming(0, 1, wrong), -1);
            Due.is("what ahead of there", x.coming(0, 0, wrong), -1);
        }
        for (int wrong : Due.beside(0, 3)) {
            Due.is("place " + wrong, x.coming(0, wrong, 1), -1);
        }
        Due.promise(10, "BAD: they are there.");
        for (int what = 0; what < 2; what++) {
            Due.is("in a room", x.coming(0, 0, what), -2);
            Due.is("out", x.coming(1, 3, what), -2);
        }
    }

    private static void come() {
        MiddleSpeaks x = Due.withPeople(new int[] {19, 20, 35}, new int[] {1, 2, 3}, new int[] {0, 0, 3});
        Due.term("A COMING: one goes to another PLACE, unless BARRED: COST is PRICE more (9999 at most), COMINGS are 1 more.");
        Due.house(x, "price 6 n=2;bar r=2&p=0;bar r=1&n=2", 0);
        Due.is("from out", x.come(2, 0), 1);
        Due.is("place", x.of(2, 2), 0);
        Due.is("comings", x.told(1), 1);
        Due.is("cost", x.told(2), 1);
        Due.is("to out", x.come(0, 3), 1);
        Due.is("second one out", x.come(1, 3), 7);
        Due.is("alone", x.come(2, 1), 1);
        Due.is("back", x.come(2, 0), 1);
        Due.is("comings then", x.told(1), 5);
        Due.is("cost then", x.told(2), 11);
        Due.is("who is in 0", x.inside(0, 2), 4);
        Due.is("who is in 1", x.inside(1, 2), 0);
        Due.promise(11, "A COMING: its PRICE.");
        Due.house(x, "price 98 p=0;price 1 r=2", 1);
        Due.is("the price", x.come(0, 2), 100);
        Due.is("what it was", x.told(2), 111);
    }

    private static void refusedComings() {
        MiddleSpeaks x = Due.withPeople(new int[] {19, 20}, new int[] {1, 2}, new int[] {0, 3});
        Due.promise(11, "NONE;");
        for (int wrong : Due.beside(0, 1)) {
            Due.is("person " + wrong, x.come(wrong, 1), -1);
        }
        for (int wrong : Due.beside(0, 3)) {
            Due.is("place " + wrong, x.come(0, wrong), -1);
        }
        Due.promise(11, "BAD: they are there;");
        Due.is("in a room", x.come(0, 0), -2);
        Due.is("out", x.come(1, 3), -2);
        // there were never 9999, as 512 calls are too few
        Due.promise(11, "STATE: BARRED, or there were 9999.");
        Due.house(x, "bar p=1&r=0;bar r=1&n=1", 0);
        Due.is("barred", x.come(1, 0), -3);
        Due.is("barred by another", x.come(0, 1), -3);
        Due.house(x, "bar p<5", 1);
        Due.is("there ahead of barred", x.come(1, 3), -2);
        Due.is("person ahead of barred", x.come(2, 1), -1);
        Due.is("all barred", x.come(1, 2), -3);
        Due.is("no comings", x.told(1), 0);
        Due.is("no cost", x.told(2), 0);
        Due.is("0 is where it was", x.of(0, 2), 0);
        Due.is("1 is where it was", x.of(1, 2), 3);
    }

    private static void mostCost() {
        Due.term("COST is PRICE more (9999 at most)");
        MiddleSpeaks x = Due.withPeople(new int[] {5, 6}, new int[2], new int[2]);
        Due.house(x, DEAREST, 0);
        for (int i = 1; i <= 14; i++) {
            Due.is("price " + i, x.come(0, i % 2), 694);
        }
        Due.is("14 of them", x.told(2), 9716);
        Due.house(x, "price 99 p=0;price 99 p=0;price 83 p=0", 1);
        Due.is("all but one", x.come(0, 1), 282);
        Due.is("just below", x.told(2), 9998);
        Due.is("one more", x.come(1, 2), 1);
        Due.is("just that", x.told(2), 9999);
        Due.is("and one more", x.come(1, 3), 1);
        Due.is("no more", x.told(2), 9999);
        Due.is("far more", x.come(0, 2), 282);
        Due.is("no more than that", x.told(2), 9999);
        Due.is("all came", x.told(1), 18);
        Due.is("the cheapest is of these alone", x.cheapest(0, 1, 1), 282);
        MiddleSpeaks y = Due.withPeople(new int[] {5}, new int[1], new int[1]);
        Due.house(y, DEAREST, 0);
        for (int i = 1; i <= 16; i++) {
            y.come(0, i % 2);
            Due.is("over it at one go: " + i, y.told(2), i < 15 ? 694 * i : 9999);
        }
    }

    private static void say() {
        MiddleSpeaks x = Due.withPeople(new int[] {10, 20, 30, 44, 50}, new int[5], new int[] {0, 0, 0, 0, 1});
        x.room(0, 4, 0);
        Due.term("SAY: one who MAY SPEAK in the ROOM where they are says a THING that they KNOW: all in that ROOM KNOW it then; "
            + "it is told what that is WORTH, for all others in it who did not KNOW it, together.");
        Due.house(x, "worth 3 n=4;worth 10 p=3&a=4&t=7&r=0;worth 50 p=1;worth 99 r=1", 0);
        x.learn(1, 128);
        x.learn(2, 1);
        Due.is("0, 2 and 3 hear it", x.say(1, 7), 3 + 3 + 13);
        Due.is("0 knows it then", x.of(0, 3), 128);
        Due.is("1 knows it yet", x.of(1, 3), 128);
        Due.is("2 knows it, and what it knew", x.of(2, 3), 129);
        Due.is("3 knows it then", x.of(3, 3), 128);
        Due.is("4 is elsewhere", x.of(4, 3), 0);
        Due.is("who heard it says it: nobody hears it anew", x.say(2, 7), 0);
        Due.is("1 hears for 50, too", x.say(2, 0), 3 + 53 + 3);
        x.learn(3, 1);
        Due.is("just 3 does not know it", x.say(1, 7), 13);
        x.learn(4, 64);
        Due.is("nobody else is there", x.say(4, 6), 0);
        Due.is("the others did not hear that", x.of(0, 3), 129);
        Due.is("it is no coming", x.told(1), 0);
        Due.is("it has no cost", x.told(2), 0);
        Due.promise(12, "SAY: what it is WORTH.");
        x.learn(0, 0);
        Due.is("0 hears it", x.say(2, 0), 3);
    }

    private static void refusedSayings() {
        MiddleSpeaks x = Due.withPeople(new int[] {10, 20, 30}, new int[3], new int[] {0, 0, 0});
        x.learn(0, 255);
        x.learn(1, 1);
        Due.promise(12, "-10001: NONE: person, thing;");
        for (int wrong : Due.beside(0, 2)) {
            Due.is("person " + wrong, x.say(wrong, 0), -10001);
        }
        for (int wrong : Due.beside(0, 7)) {
            Due.is("thing " + wrong, x.say(1, wrong), -10001);
            Due.is("thing ahead of speaking " + wrong, x.say(0, wrong), -10001);
        }
        Due.is("32 more than a thing it knows", x.say(1, 32), -10001);
        Due.promise(12, "-10003: STATE: they may not speak, or don't KNOW it.");
        Due.is("may not speak", x.say(0, 0), -10003);
        Due.is("does not know it", x.say(1, 1), -10003);
        Due.is("neither", x.say(2, 7), -10003);
        x.come(0, 3);
        Due.is("alone out", x.say(0, 0), -10003);
        x.come(2, 1);
        Due.house(x, "same 5", 0);
        x.person(25, 0, 1);
        x.person(26, 0, 1);
        x.learn(4, 1);
        Due.is("the middle one, of ages that are as one", x.say(4, 0), -10003);
        Due.is("nobody heard it", x.of(2, 3), 0);
    }
}
