/** What can be from here on: promises 13 to 18. The rows at the limits were looked for by a search, and hold for the model, too. */
final class WhatCanBeTest {
    private static final int[] NO_ROOMS = Due.beside(0, 2), NO_THINGS = Due.beside(0, 7);

    public static void main(String[] args) {
        run();
        Due.end();
    }

    static void run() {
        goesOnFromHowAllIs();
        notBarredAlone();
        comingsCountOn();
        soonest();
        firstComing();
        soonestAtTheLimit();
        refusedSoonest();
        cheapest();
        cheapestOfFewer();
        refusedCheapest();
        never();
        heard();
        heardAtOnce();
        heardAtTheLimit();
        secret();
        secretAtTheLimit();
        refusedSecret();
        game();
        gameByTurns();
        gameOfTurning();
        refusedGame();
    }

    private static MiddleSpeaks scene(int[] ages, int[] places, int[] kinds, int[] vs, String house) {
        MiddleSpeaks x = Due.withPeople(ages, new int[ages.length], places);
        for (int room = 0; room < 3; room++) {
            x.room(room, kinds[room], vs[room]);
        }
        Due.house(x, house, 0);
        return x;
    }

    private static void goesOnFromHowAllIs() {
        Due.term("All that follows is asked, goes on from how all is, and changes nothing;");
        MiddleSpeaks x = scene(new int[] {30, 50, 40}, new int[] {0, 0, 3}, new int[3], new int[3], "price 7 p=0");
        Due.is("as all is", x.soonest(0, 0, 0), 1);
        Due.is("asked again", x.soonest(0, 0, 0), 1);
        Due.is("1 goes, then 0 is alone", x.cheapest(0, 0, 1), 1);
        Due.is("no coming was made", x.told(1), 0);
        Due.is("nothing was paid", x.told(2), 0);
        Due.is("all are where they were", x.inside(0, 2), 3);
        x.come(1, 2);
        Due.is("from the places as they are then", x.soonest(0, 0, 0), 0);
        x.room(0, 2, 1);
        Due.is("of the kind as it is then", x.soonest(0, 0, 0), 1);
        Due.house(x, "bar r=0", 1);
        Due.is("with the house that holds then", x.soonest(0, 0, 0), -5);
    }

    /** Each question among comings of which some are barred. */
    private static void notBarredAlone() {
        Due.term("COMINGS that are not BARRED alone (TURNING: COMINGS count on).");
        MiddleSpeaks x = scene(new int[] {30, 50}, new int[] {0, 1}, new int[3], new int[3], "bar p=0&r=2;bar p=1&r=0;bar n=3");
        x.learn(1, 1);
        Due.is("soonest", x.soonest(0, 2, 0), -5);
        Due.is("cheapest", x.cheapest(0, 2, 4), -5);
        Due.is("never", x.never(2), 1);
        Due.is("never, of the other", x.never(0), 2);
        Due.is("game", x.game(2, 1, 3), 0);
        x.room(0, 1, 0);
        x.room(1, 1, 0);
        Due.is("0 is the lower and hears nothing", x.heard(0), -5);
        Due.is("secret", x.secret(0, 1, 0), -5);
        Due.house(x, "bar p=0", 1);
        Due.is("by the other's coming alone", x.soonest(1, 2, 1), 6);
        Due.house(x, "bar p<9", 2);
        Due.is("no coming at all", x.soonest(0, 1, 0), -5);
        Due.is("it stays as it is", x.soonest(0, 0, 0), 0);
        Due.is("whoever may not now, never can", x.never(1), 1);
        Due.is("no coming is needed", x.cheapest(0, 0, 4), 0);
    }

    /** Just person 3 comes and goes, the three in room 0 are turned by it. */
    private static MiddleSpeaks turned() {
        return scene(new int[] {1, 2, 3, 4}, new int[] {0, 0, 0, 1}, new int[] {5, 0, 0}, new int[3],
            "bar p<3;bar r=0;price 5 r=1");
    }

    private static void comingsCountOn() {
        MiddleSpeaks x = turned();
        x.learn(2, 1);
        x.learn(3, 3);
        x.learn(1, 2);
        for (int comings = 0; comings < 7; comings++) {
            for (int who = 0; who < 3; who++) {
                Due.is("soonest of " + who + " behind " + comings, x.soonest(who, 0, 0), (who + 12 - comings) % 3);
            }
            Due.is("heard of 2", x.heard(0), (14 - comings) % 3);
            Due.is("heard of 1", x.heard(1), (13 - comings) % 3);
            Due.is("secret of 2", x.secret(0, 1, 0), -5);
            x.come(3, comings % 2 == 0 ? 2 : 1);
        }
        MiddleSpeaks y = turned();
        y.learn(2, 1);
        Due.is("secret is out when it is the turn of 2", y.secret(0, 3, 0), 2);
        Due.is("cheapest by 1", y.cheapest(2, 0, 1), -5);
        Due.is("cheapest by 2: to 2 and out", y.cheapest(2, 0, 2), 2);
        Due.is("just the one who comes and goes", y.never(0), 8);
        Due.is("lot", y.lot(2, 2, 0), 1);
        Due.is("lot of 1 coming", y.lot(2, 1, 0), 0);
    }

    private static void soonest() {
        MiddleSpeaks x = Due.withPeople(new int[] {30, 50, 40}, new int[3], new int[] {0, 0, 3});
        Due.term("SOONEST of one in a ROOM: the fewest COMINGS (0 .. 12) behind which they are in it and MAY SPEAK there (-5: none by then);");
        Due.is("one goes, two ways to it", x.soonest(0, 0, 0), 1);
        Due.is("the middle one comes in", x.soonest(2, 0, 0), 1);
        Due.is("into another room", x.soonest(1, 2, 0), 1);
        Due.house(x, "bar p=1&r=2;bar p=2", 0);
        Due.is("barred from it", x.soonest(1, 2, 0), -5);
        x.come(0, 1);
        Due.is("at once", x.soonest(1, 0, 0), 0);
        MiddleSpeaks z = Due.withPeople(new int[] {30, 50, 40, 40}, new int[4], new int[] {0, 0, 0, 0});
        Due.is("the youngest: all three others go", z.soonest(0, 0, 0), 3);
        Due.is("0 goes, of 40, 40, 50", z.soonest(3, 0, 1), 1);
        Due.house(z, "same 5;bar p=3", 0);
        Due.is("one goes", z.soonest(3, 0, 0), 1);
        Due.is("it is the other one of that age", z.soonest(3, 0, 1), 9);
    }

    private static void firstComing() {
        MiddleSpeaks x = Due.withPeople(new int[] {30, 50, 40}, new int[3], new int[] {0, 0, 3});
        Due.term("the least first COMING of some such row (4 times who, and the PLACE).");
        Due.is("1 to 1", x.soonest(0, 0, 1), 5);
        Due.is("2 to 0", x.soonest(2, 0, 1), 8);
        Due.is("1 to 2", x.soonest(1, 2, 1), 6);
        Due.is("0 to 1, and then 2 alone to 0 is no row of one", x.soonest(1, 0, 1), 1);
        Due.house(x, "bar r=1;bar r=2", 0);
        Due.is("1 to 3", x.soonest(0, 0, 1), 7);
        x.come(0, 3);
        x.come(1, 3);
        Due.is("0 to 0", x.soonest(0, 0, 1), 0);
        MiddleSpeaks y = Due.withPeople(new int[] {1, 2, 3, 4, 5}, new int[5], new int[] {0, 0, 0, 0, 3});
        y.room(0, 2, 4);
        Due.house(y, "bar p<4&r<9", 0);
        Due.is("4 to 0, the greatest that leads somewhere", y.soonest(0, 0, 1), 16);
        y.room(1, 2, 0);
        Due.is("4 to 1", y.soonest(4, 1, 1), 17);
        Due.promise(13, "SOONEST: what 0 how many, 1 the first COMING (-5: also for none); -5.");
        Due.is("how many", x.soonest(1, 0, 0), 1);
        Due.is("the first", x.soonest(1, 0, 1), 4);
        x.come(1, 0);
        Due.is("none is needed", x.soonest(1, 0, 0), 0);
        Due.is("no first of none", x.soonest(1, 0, 1), -5);
        Due.is("none by then", x.soonest(1, 1, 0), -5);
        Due.is("no first of that", x.soonest(1, 1, 1), -5);
    }

    private static void soonestAtTheLimit() {
        MiddleSpeaks x = scene(new int[] {60, 0, 60, 40, 80}, new int[] {1, 0, 1, 0, 0}, new int[] {1, 0, 0}, new int[] {2, 2, 3},
            "bar r>3;bar n>1&p=4;bar r>1&p<3&n<3;bar p=1&n<5;bar r=0;bar r=3&n>1&!r=3;bar r>1&n>3;bar r=0&p>4");
        Due.is("behind 15", x.soonest(1, 1, 0), -5);
        Due.is("never by 12", x.never(1) & 2, 2);
        x.come(4, 2);
        Due.is("behind 14", x.soonest(1, 1, 0), -5);
        x.come(3, 2);
        Due.is("behind 13", x.soonest(1, 1, 0), -5);
        Due.is("no first by 12", x.soonest(1, 1, 1), -5);
        Due.is("never by 12, still", x.never(1) & 2, 2);
        x.come(0, 2);
        Due.is("behind 12", x.soonest(1, 1, 0), 12);
        Due.is("3 to OUT", x.soonest(1, 1, 1), 15);
        Due.is("not never", x.never(1) & 2, 0);
        MiddleSpeaks y = scene(new int[] {90, 50, 50, 40, 0}, new int[] {1, 1, 2, 3, 3}, new int[] {2, 0, 5}, new int[] {2, 0, 0},
            "bar n>5&n>2;bar r<2;bar p<2&n<4;bar r<0&r>0;bar n=1&p=3&p<3;bar n<2&!n>5;bar p=4&n<2;bar n<1");
        Due.is("12 with turns", y.soonest(1, 2, 0), 12);
        Due.is("3 to 2", y.soonest(1, 2, 1), 14);
    }

    private static void refusedSoonest() {
        MiddleSpeaks x = Due.withPeople(new int[] {1, 2}, new int[2], new int[2]);
        Due.promise(13, "NONE.");
        for (int wrong : Due.beside(0, 1)) {
            Due.is("person " + wrong, x.soonest(wrong, 0, 0), -1);
            Due.is("what " + wrong, x.soonest(0, 0, wrong), -1);
        }
        for (int wrong : NO_ROOMS) {
            Due.is("room " + wrong, x.soonest(0, wrong, 0), -1);
        }
    }

    private static void cheapest() {
        MiddleSpeaks x = Due.withPeople(new int[] {30, 50}, new int[2], new int[] {0, 0});
        Due.term("CHEAPEST of n (0 .. 4) COMINGS for one in a ROOM: the least COST (of these alone) of n or fewer by which it is so (-5: none).");
        Due.house(x, "price 50 p=0&r=1;price 20 p=0&r=3;price 30 p=1;price 8 r=2;bar p=0&r=0", 0);
        Due.is("none", x.cheapest(0, 0, 0), -5);
        Due.is("1 goes", x.cheapest(0, 0, 1), 31);
        Due.is("itself to 1", x.cheapest(0, 1, 1), 51);
        Due.is("the way by 2 is dearer", x.cheapest(0, 1, 2), 51);
        Due.is("itself to 2", x.cheapest(0, 2, 1), 9);
        Due.is("0 goes to 2, then 1 alone", x.cheapest(1, 0, 4), 9);
        x.come(1, 3);
        Due.is("what was paid ahead does not count", x.cheapest(0, 1, 1), 51);
        Due.is("now", x.cheapest(0, 0, 0), 0);
        Due.is("no more than now", x.cheapest(0, 0, 4), 0);
        Due.promise(14, "CHEAPEST; -5.");
        Due.is("how dear it is", x.cheapest(0, 2, 4), 9);
        Due.is("barred from it for ever", scene(new int[] {1}, new int[] {3}, new int[3], new int[3], "bar r=1").cheapest(0, 1, 4), -5);
    }

    private static void cheapestOfFewer() {
        MiddleSpeaks x = Due.withPeople(new int[] {30, 50}, new int[2], new int[] {0, 0});
        Due.house(x, "price 90 p=0&r=1&n=1;bar p=0&r=0;bar p=1&r>1", 0);
        Due.is("alone into it", x.cheapest(0, 1, 1), 91);
        Due.is("two are no way about it", x.cheapest(0, 1, 2), 91);
        Due.is("1 to 1, 0 to 1, 1 to 0", x.cheapest(0, 1, 3), 3);
        Due.is("a fourth does not help", x.cheapest(0, 1, 4), 3);
        MiddleSpeaks five = scene(new int[] {10, 20, 30, 40, 50}, new int[] {0, 1, 1, 1, 1}, new int[] {2, 2, 0}, new int[] {4, 0, 0},
            "price 7 n=5;bar r>1");
        Due.is("3 of 4 to come", five.cheapest(0, 0, 3), -5);
        Due.is("all 4 came", five.cheapest(0, 0, 4), 11);
        MiddleSpeaks dear = scene(new int[] {10, 20, 30, 40, 50}, new int[] {0, 1, 1, 1, 1}, new int[] {2, 0, 0}, new int[] {4, 0, 0},
            "price 99 r=0;price 99 r=0;price 99 r=0;price 99 r=0;price 99 r=0;price 99 r=0;price 99 r=0");
        Due.is("the dearest 4", dear.cheapest(0, 0, 4), 4 * 694);
    }

    private static void refusedCheapest() {
        MiddleSpeaks x = Due.withPeople(new int[] {30, 50}, new int[2], new int[] {0, 0});
        Due.promise(14, "NONE;");
        for (int wrong : Due.beside(0, 1)) {
            Due.is("person " + wrong, x.cheapest(wrong, 0, 0), -1);
            Due.is("person ahead of n " + wrong, x.cheapest(wrong, 0, 5), -1);
        }
        for (int wrong : NO_ROOMS) {
            Due.is("room " + wrong, x.cheapest(0, wrong, 0), -1);
            Due.is("room ahead of n " + wrong, x.cheapest(0, wrong, -1), -1);
        }
        Due.promise(14, "BAD: n.");
        for (int wrong : Due.beside(0, 4)) {
            Due.is("n " + wrong, x.cheapest(0, 1, wrong), -2);
        }
    }

    private static void never() {
        Due.term("NEVER in a ROOM: PEOPLE who by 12 COMINGS never can be in it and MAY SPEAK there, as bits.");
        MiddleSpeaks x = Due.withPeople(new int[] {10, 20, 30}, new int[3], new int[] {3, 3, 3});
        Due.is("all can", x.never(0), 0);
        x.room(0, 2, 1);
        Due.is("the eldest is never eldest but one", x.never(0), 4);
        x.room(0, 2, 2);
        Due.is("the eldest but two", x.never(0), 6);
        x.room(0, 2, 3);
        Due.is("none of three", x.never(0), 7);
        x.room(0, 0, 0);
        Due.house(x, "bar p=1&r=0;bar r=0&n>1;same 9", 0);
        Due.is("1 cannot come", x.never(0), 2);
        Due.is("elsewhere", x.never(1), 0);
        MiddleSpeaks two = Due.withPeople(new int[] {10, 20}, new int[2], new int[] {3, 0});
        Due.is("1 can at once, 0 by two: 1 goes, then 0 comes", two.never(0), 0);
        Due.promise(15, "NEVER, as bits.");
        Due.is("of nobody", new MiddleSpeaks().never(2), 0);
        MiddleSpeaks five = scene(new int[5], new int[] {3, 3, 3, 3, 3}, new int[3], new int[3], "bar r=2");
        Due.is("all five", five.never(2), 31);
        Due.is("none of five", five.never(1), 0);
        Due.promise(15, "NONE.");
        for (int wrong : NO_ROOMS) {
            Due.is("room " + wrong, five.never(wrong), -1);
        }
    }

    private static void heard() {
        Due.term("HEARD of a THING: now, and behind each COMING, whoever MAY SPEAK in a ROOM and KNOWS it says it at once "
            + "(all ROOMS as they are then): the fewest COMINGS (0 .. 6) behind which (what is said then, too) all PEOPLE KNOW it (-5: by no row).");
        MiddleSpeaks x = Due.withPeople(new int[] {10, 20, 30}, new int[3], new int[] {0, 0, 0});
        Due.is("none knows", x.heard(0), -5);
        x.learn(1, 1);
        Due.is("at once", x.heard(0), 0);
        Due.is("another thing", x.heard(1), -5);
        x.learn(0, 7);
        x.learn(1, 6);
        x.learn(2, 2);
        Due.is("all know", x.heard(1), 0);
        Due.is("the middle one knows it", x.heard(2), 0);
        Due.is("the youngest speaks alone or not at all", x.heard(0), -5);
        x.room(0, 1, 0);
        Due.is("2 goes, 0 tells 1; 2 comes, 1 tells 2", x.heard(0), 2);
        x.room(0, 5, 0);
        Due.is("0 speaks now", x.heard(0), 0);
        x.come(0, 1);
        Due.is("2 is at (1) modulo 2, and does not know it", x.inside(0, 3), 4);
        Due.is("0 goes on to 2, and it is the turn of 1", x.heard(2), 1);
        Due.promise(16, "HEARD of a THING; -5.");
        Due.is("of nobody all know it", new MiddleSpeaks().heard(7), 0);
        MiddleSpeaks one = Due.withPeople(new int[1], new int[1], new int[] {3});
        Due.is("of one who does not", one.heard(7), -5);
        one.learn(0, 128);
        Due.is("of one who does, out", one.heard(7), 0);
        Due.promise(16, "NONE.");
        for (int wrong : NO_THINGS) {
            Due.is("thing " + wrong, one.heard(wrong), -1);
        }
    }

    /** Two speak in one room, and in two rooms they speak at once. */
    private static void heardAtOnce() {
        MiddleSpeaks x = Due.withPeople(new int[] {10, 20, 30, 40, 50}, new int[5], new int[] {0, 0, 0, 0, 1});
        x.room(0, 4, 0);
        x.learn(2, 8);
        x.learn(4, 8);
        Due.is("the upper of two", x.heard(3), 0);
        x.learn(2, 0);
        x.learn(4, 0);
        x.learn(1, 8);
        Due.is("1 tells 0, 2, 3; 4 comes, 2 tells 4", x.heard(3), 1);
        x.come(0, 1);
        Due.is("0 comes, 1 tells 2, 3; 4 comes, 2 tells 4", x.heard(3), 2);
        MiddleSpeaks y = Due.withPeople(new int[] {10, 20, 30, 40, 50}, new int[5], new int[] {0, 0, 1, 1, 2});
        y.room(0, 1, 0);
        y.room(1, 1, 0);
        y.learn(0, 1);
        y.learn(2, 1);
        y.learn(4, 1);
        Due.is("0 tells 1, and 2 tells 3", y.heard(0), 0);
        y.learn(4, 0);
        Due.is("and one more room", y.heard(0), 1);
        MiddleSpeaks out = Due.withPeople(new int[] {10, 20}, new int[2], new int[] {3, 3});
        out.learn(0, 1);
        Due.is("out nobody tells it: two come in", out.heard(0), -5);
        out.room(2, 1, 0);
        Due.is("into a lower one", out.heard(0), 2);
    }

    private static void heardAtTheLimit() {
        MiddleSpeaks six = scene(new int[] {70, 70, 80, 40, 60}, new int[] {3, 0, 1, 2, 2}, new int[] {4, 5, 0}, new int[] {1, 1, 4},
            "bar p=3&n=1&n>1;bar p<3&!r=2&!n<2;bar r=0&n>4;bar n<2&n>3;bar p>0&r=2&r<2;bar p>0&r<1&p<1;bar n=3");
        six.learn(4, 1);
        Due.is("behind 6", six.heard(0), 6);
        MiddleSpeaks seven = scene(new int[] {0, 60, 10, 40, 70}, new int[] {2, 3, 3, 2, 1}, new int[] {0, 1, 1}, new int[] {0, 4, 0},
            "bar n=5;bar n>1&!r=0;bar r<0&p=2&r=0;bar n=4&n>2&n<5;bar r=2&!n<3&!r>2;bar r<0&!r<1;bar n=3&!n=4&r>2");
        seven.learn(1, 1);
        Due.is("behind 7", seven.heard(0), -5);
        seven.come(0, 0);
        Due.is("the first of the 7 is made", seven.heard(0), 6);
    }

    private static void secret() {
        MiddleSpeaks x = Due.withPeople(new int[] {10, 20, 30}, new int[3], new int[] {0, 0, 0});
        Due.term("SECRET: likewise the fewest behind which one KNOWS it, and another one does not (-5: by no row).");
        Due.is("none knows", x.secret(0, 1, 0), -5);
        x.learn(0, 1);
        Due.is("now: it is no middle one", x.secret(0, 1, 0), 0);
        Due.is("0 would hear it from none", x.secret(1, 0, 0), -5);
        Due.is("the youngest speaks alone or not at all", x.secret(1, 2, 0), -5);
        x.room(1, 1, 0);
        Due.is("0 and 1 go to 1, 0 is the lower", x.secret(1, 2, 0), 2);
        Due.is("0 and 2 go to 1", x.secret(2, 1, 0), 2);
        x.learn(1, 1);
        Due.is("1 speaks at once: what is said now counts", x.secret(1, 2, 0), -5);
        x.come(1, 3);
        Due.is("now away", x.secret(1, 2, 0), 0);
        Due.promise(17, "SECRET; -5.");
        Due.is("of another thing", x.secret(1, 2, 7), -5);
        Due.is("of this one", x.secret(1, 2, 0), 0);
    }

    private static void secretAtTheLimit() {
        MiddleSpeaks six = scene(new int[] {70, 40, 90, 0, 30}, new int[] {2, 3, 3, 3, 0}, new int[] {0, 0, 2}, new int[] {1, 1, 3},
            "bar n=2&!p=2;bar p>4&r<0;bar r>3&!n<5;bar n=1;bar r>2;bar n<2&r=0&!r>1;bar n>2&!n=5&r=3;bar r>2");
        six.learn(1, 1);
        Due.is("behind 6", six.secret(0, 2, 0), 6);
        MiddleSpeaks seven = scene(new int[] {10, 20, 0, 60}, new int[] {2, 3, 3, 2}, new int[] {2, 0, 5}, new int[] {2, 2, 4},
            "bar r<0&p>0&!r<2;bar n<3&r>3&!r=0;bar r>3&!n>5&p>0;bar n=5&r<2&!n=1;bar p>3&n>3;bar n<1&!n=2;bar r<2");
        seven.learn(1, 1);
        Due.is("behind 7", seven.secret(0, 3, 0), -5);
        seven.come(0, 3);
        Due.is("the first of the 7 is made", seven.secret(0, 3, 0), 6);
    }

    private static void refusedSecret() {
        MiddleSpeaks x = Due.withPeople(new int[] {10, 20, 30}, new int[3], new int[] {0, 0, 0});
        Due.promise(17, "NONE: people, thing;");
        for (int wrong : Due.beside(0, 2)) {
            Due.is("one " + wrong, x.secret(wrong, 1, 0), -1);
            Due.is("other " + wrong, x.secret(1, wrong, 0), -1);
            Due.is("nobody ahead of one person " + wrong, x.secret(wrong, wrong, 0), -1);
        }
        for (int wrong : NO_THINGS) {
            Due.is("thing " + wrong, x.secret(0, 1, wrong), -1);
            Due.is("thing ahead of one person " + wrong, x.secret(1, 1, wrong), -1);
        }
        Due.promise(17, "BAD: one person.");
        for (int who = 0; who < 3; who++) {
            Due.is("one person " + who, x.secret(who, who, 7), -2);
        }
    }

    private static void game() {
        Due.term("GAME at a ROOM for a party (bits of PEOPLE; all others are the other party): n turns (1 .. 3), by turns, that party first: "
            + "in each one COMING of anybody that is not BARRED is made, or none; the party wins, if in the end one of it MAY SPEAK in that ROOM, "
            + "and nobody of the other: whether it can, whatever the other does (0, 1).");
        MiddleSpeaks x = Due.withPeople(new int[] {10, 20, 30}, new int[3], new int[] {0, 0, 3});
        Due.is("1 goes", x.game(0, 1, 1), 1);
        Due.is("none of a party", x.game(0, 0, 1), 0);
        Due.is("all are of it", x.game(0, 7, 1), 1);
        Due.is("2 comes: 1 is the middle one", x.game(0, 2, 1), 1);
        x.come(2, 0);
        Due.is("no coming is best", x.game(0, 2, 1), 1);
        x.room(0, 4, 0);
        x.come(0, 1);
        Due.is("both of two may speak, of two parties", x.inside(0, 3), 6);
        Due.is("so 2 goes", x.game(0, 2, 1), 1);
        Due.house(x, "bar p<3", 0);
        Due.is("none may come: not won by both", x.game(0, 2, 3), 0);
        Due.is("won by both as one party", x.game(0, 6, 3), 1);
        Due.is("nobody of it in the room", x.game(0, 1, 3), 0);
        Due.promise(18, "GAME: whether the first party can win.");
        MiddleSpeaks one = Due.withPeople(new int[1], new int[1], new int[] {3});
        Due.is("the first one comes to the first place", one.game(0, 1, 1), 1);
        Due.is("the other party is nobody, and has a turn", one.game(0, 1, 2), 0);
        Due.is("it has the last one", one.game(0, 1, 3), 1);
        Due.is("of nobody", new MiddleSpeaks().game(0, 0, 3), 0);
    }

    private static void gameByTurns() {
        MiddleSpeaks x = Due.withPeople(new int[] {10, 20, 30}, new int[3], new int[] {0, 0, 3});
        Due.is("the other has the last turn", x.game(0, 1, 2), 0);
        Due.is("in two turns 0 goes", x.game(0, 2, 2), 0);
        Due.is("0 goes out, 1 is alone, 2 goes in: two", x.game(0, 4, 3), 0);
        Due.house(x, "bar p>0;bar p=0&r=0", 0);
        Due.is("0 goes out, and never comes back", x.game(0, 2, 1), 1);
        Due.is("the other cannot bring it back", x.game(0, 2, 2), 1);
        Due.is("nor in three", x.game(0, 2, 3), 1);
        Due.is("not for 0, as it may not speak among two", x.game(0, 1, 3), 0);
        x.come(0, 1);
        Due.is("it is won already", x.game(0, 2, 3), 1);
        Due.is("and lost", x.game(0, 5, 3), 0);
    }

    private static void gameOfTurning() {
        MiddleSpeaks x = turned();
        x.come(3, 2);
        x.come(3, 1);
        x.come(3, 2);
        Due.is("3 gone, the turn of 0", x.inside(0, 3), 1);
        Due.is("1 more for the turn of 1", x.game(0, 2, 1), 1);
        Due.is("2 more for the turn of 2", x.game(0, 4, 1), 0);
        Due.is("the other goes, or not", x.game(0, 2, 2), 0);
        Due.is("the last turn makes up for it: 2 in all", x.game(0, 4, 3), 1);
        Due.is("1 in all", x.game(0, 2, 3), 1);
        Due.is("0 or 3 in all is up to the other", x.game(0, 1, 3), 0);
        Due.house(x, "bar p<9", 1);
        Due.is("no coming, so no turning", x.game(0, 1, 3), 1);
        Due.is("not for another", x.game(0, 2, 3), 0);
    }

    private static void refusedGame() {
        MiddleSpeaks x = Due.withPeople(new int[] {10, 20, 30}, new int[3], new int[] {0, 0, 3});
        Due.promise(18, "NONE: room;");
        for (int wrong : NO_ROOMS) {
            Due.is("room " + wrong, x.game(wrong, 1, 1), -1);
            Due.is("room ahead of party " + wrong, x.game(wrong, 8, 1), -1);
            Due.is("room ahead of n " + wrong, x.game(wrong, 1, 0), -1);
        }
        Due.promise(18, "BAD: party (bits of PEOPLE that are there, or 0), n.");
        for (int wrong : Due.beside(0, 7)) {
            Due.is("party " + wrong, x.game(0, wrong, 1), -2);
        }
        Due.is("nobody is there", new MiddleSpeaks().game(0, 1, 1), -2);
        Due.is("party 0", x.game(0, 0, 3), 0);
        Due.is("party of all", x.game(0, 7, 3), 1);
        for (int wrong : Due.beside(1, 3)) {
            Due.is("n " + wrong, x.game(0, 1, wrong), -2);
        }
    }
}
