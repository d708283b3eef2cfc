/** Promises 13 to 18. The rows at the limits were looked for by a search, and hold for the model, too. */
final class WhatCanBeTest {
    private static final int MIN = Integer.MIN_VALUE, MAX = Integer.MAX_VALUE;

    public static void main(String[] args) {
        soonest();
        soonestAtTheLimit();
        cheapest();
        never();
        heard();
        heardAtTheLimit();
        secret();
        secretAtTheLimit();
        game();
        wrongNumbers();
        nothingChanges();
        Due.end();
    }

    private static MiddleSpeaks scene(int[] ages, int[] places, int[] kinds, int[] vs, String house) {
        MiddleSpeaks x = Due.withPeople(ages, new int[ages.length], places);
        for (int room = 0; room < 3; room++) {
            x.room(room, kinds[room], vs[room]);
        }
        Due.house(x, house, 0);
        return x;
    }

    /** Promise 13. */
    private static void soonest() {
        MiddleSpeaks x = Due.withPeople(new int[] {30, 50, 40}, new int[3], new int[] {0, 0, 3});
        Due.is("one goes, two ways to it", x.soonest(0, 0, 0), 1);
        Due.is("the least: 1 to 1", x.soonest(0, 0, 1), 5);
        Due.is("the middle one comes in", x.soonest(2, 0, 0), 1);
        Due.is("2 to 0", x.soonest(2, 0, 1), 8);
        Due.is("into another room", x.soonest(1, 2, 0), 1);
        Due.is("1 to 2", x.soonest(1, 2, 1), 6);
        Due.house(x, "bar p=1&r=2;bar p=2", 0);
        Due.is("barred from it", x.soonest(1, 2, 0), -5);
        Due.is("no first then", x.soonest(1, 2, 1), -5);
        Due.is("by 0 to 1", x.soonest(1, 0, 1), 1);
        x.come(0, 1);
        Due.is("at once", x.soonest(1, 0, 0), 0);
        Due.is("no first of none", x.soonest(1, 0, 1), -5);
        turningGoesOn();
    }

    /** One person alone may come and go, the others are turned by each coming. */
    private static void turningGoesOn() {
        MiddleSpeaks x = scene(new int[] {1, 2, 3, 4}, new int[] {0, 0, 0, 1}, new int[] {5, 0, 0}, new int[3], "bar p<3;bar r=0");
        Due.is("turn of 0", x.soonest(0, 0, 0), 0);
        Due.is("turn of 1", x.soonest(1, 0, 0), 1);
        Due.is("turn of 2", x.soonest(2, 0, 0), 2);
        Due.is("first: 3 to 2", x.soonest(2, 0, 1), 14);
        x.come(3, 2);
        Due.is("turn of 0 then", x.soonest(0, 0, 0), 2);
        Due.is("first: 3 to 1", x.soonest(0, 0, 1), 13);
        Due.is("turn of 1 then", x.soonest(1, 0, 0), 0);
        Due.is("never 3", x.never(0), 8);
        Due.is("1 more for the turn of 2", x.game(0, 4, 1), 1);
        Due.is("2 more for the turn of 0", x.game(0, 1, 1), 0);
        Due.is("the other goes, or not", x.game(0, 4, 2), 0);
        Due.is("the last turn makes up for it: 2 in all", x.game(0, 1, 3), 1);
        Due.is("1 in all", x.game(0, 4, 3), 1);
        Due.is("0 or 3 in all is up to the other", x.game(0, 2, 3), 0);
        Due.house(x, "bar p<9", 1);
        Due.is("nobody comes, so it stays", x.soonest(2, 0, 0), -5);
        Due.is("all but 1", x.never(0), 13);
        Due.is("none to win", x.game(0, 5, 3), 0);
        Due.is("it is won", x.game(0, 2, 3), 1);
    }

    private static void soonestAtTheLimit() {
        MiddleSpeaks x = scene(new int[] {60, 0, 60, 40, 80}, new int[] {1, 0, 1, 0, 0}, new int[] {1, 0, 0}, new int[] {2, 2, 3},
            "bar r>3;bar n>1&p=4;bar r>1&p<3&n<3;bar p=1&n<5;bar r=0;bar r=3&n>1&!r=3;bar r>1&n>3;bar r=0&p>4");
        Due.is("behind 15", x.soonest(1, 1, 0), -5);
        Due.is("never by 12", x.never(1) & 2, 2);
        x.come(4, 2);
        Due.is("behind 14", x.soonest(1, 1, 0), -5);
        x.come(3, 2);
        Due.is("behind 13", x.soonest(1, 1, 0), -5);
        Due.is("no first by 12", x.soonest(1, 1, 1), -5);
        Due.is("never by 12, still", x.never(1) & 2, 2);
        x.come(0, 2);
        Due.is("behind 12", x.soonest(1, 1, 0), 12);
        Due.is("3 to OUT", x.soonest(1, 1, 1), 15);
        Due.is("not never", x.never(1) & 2, 0);
        MiddleSpeaks y = scene(new int[] {90, 50, 50, 40, 0}, new int[] {1, 1, 2, 3, 3}, new int[] {2, 0, 5}, new int[] {2, 0, 0},
            "bar n>5&n>2;bar r<2;bar p<2&n<4;bar r<0&r>0;bar n=1&p=3&p<3;bar n<2&!n>5;bar p=4&n<2;bar n<1");
        Due.is("12 with turns", y.soonest(1, 2, 0), 12);
        Due.is("3 to 2", y.soonest(1, 2, 1), 14);
    }

    /** Promise 14. */
    private static void cheapest() {
        MiddleSpeaks x = Due.withPeople(new int[] {30, 50}, new int[2], new int[] {0, 0});
        Due.house(x, "price 50 p=0&r=1;price 20 p=0&r=3;price 30 p=1;price 8 r=2;bar p=0&r=0", 0);
        Due.is("none", x.cheapest(0, 0, 0), -5);
        Due.is("by 1 away", x.cheapest(0, 0, 1), 31);
        Due.is("itself to 1", x.cheapest(0, 1, 1), 51);
        Due.is("the way by 2 is dearer", x.cheapest(0, 1, 2), 51);
        Due.is("itself to 2", x.cheapest(0, 2, 1), 9);
        Due.is("0 goes to 2, then 1 alone", x.cheapest(1, 0, 4), 9);
        Due.house(x, "price 90 p=0&r=1&n=1;bar p=0&r=0;bar p=1&r>1", 1);
        Due.is("alone into it", x.cheapest(0, 1, 1), 91);
        Due.is("1 to 1, 0 to 1, 1 to 0", x.cheapest(0, 1, 3), 3);
        x.come(0, 1);
        Due.is("now", x.cheapest(0, 1, 0), 0);
        Due.is("no more than now", x.cheapest(0, 1, 4), 0);
        for (int wrong : new int[] {-1, 5, MIN, MAX}) {
            Due.is("n " + wrong, x.cheapest(0, 1, wrong), -2);
            Due.is("person ahead of n " + wrong, x.cheapest(2, 1, wrong), -1);
            Due.is("room ahead of n " + wrong, x.cheapest(0, 3, wrong), -1);
        }
        MiddleSpeaks five = scene(new int[] {10, 20, 30, 40, 50}, new int[] {0, 1, 1, 1, 1}, new int[] {2, 2, 0}, new int[] {4, 0, 0},
            "price 7 n=5;bar r>1");
        Due.is("4 to come", five.cheapest(0, 0, 3), -5);
        Due.is("all 4 came", five.cheapest(0, 0, 4), 11);
    }

    /** Promise 15. */
    private static void never() {
        Due.is("nobody", new MiddleSpeaks().never(0), 0);
        MiddleSpeaks x = Due.withPeople(new int[] {10, 20, 30}, new int[3], new int[] {3, 3, 3});
        Due.is("all can", x.never(0), 0);
        x.room(0, 2, 1);
        Due.is("the eldest is never eldest but one", x.never(0), 4);
        x.room(0, 2, 2);
        Due.is("the eldest but two", x.never(0), 6);
        x.room(0, 2, 3);
        Due.is("none of three", x.never(0), 7);
        x.room(0, 0, 0);
        Due.house(x, "bar p=1&r=0;bar r=0&n>1;same 9", 0);
        Due.is("1 cannot come", x.never(0), 2);
        Due.is("elsewhere", x.never(1), 0);
    }

    /** Promise 16. */
    private static void heard() {
        Due.is("nobody", new MiddleSpeaks().heard(0), 0);
        MiddleSpeaks x = Due.withPeople(new int[] {10, 20, 30}, new int[3], new int[] {0, 0, 0});
        Due.is("none knows", x.heard(0), -5);
        x.learn(1, 1);
        Due.is("at once", x.heard(0), 0);
        Due.is("another thing", x.heard(1), -5);
        x.learn(0, 7);
        x.learn(1, 6);
        x.learn(2, 2);
        Due.is("all know", x.heard(1), 0);
        Due.is("the middle one knows it", x.heard(2), 0);
        Due.is("the youngest speaks alone or not at all", x.heard(0), -5);
        x.room(0, 1, 0);
        Due.is("2 goes, 0 tells 1; 2 comes, 1 tells 2", x.heard(0), 2);
        x.room(0, 5, 0);
        Due.is("0 speaks now", x.heard(0), 0);
        x.come(0, 1);
        Due.is("2 is at (1) modulo 2, and does not know it", x.inside(0, 3), 4);
        Due.is("0 goes on to 2, and it is the turn of 1", x.heard(2), 1);
        both();
    }

    /** Two speak in one room, and two rooms at once. */
    private static void both() {
        MiddleSpeaks x = Due.withPeople(new int[] {10, 20, 30, 40, 50}, new int[5], new int[] {0, 0, 0, 0, 1});
        x.room(0, 4, 0);
        x.learn(2, 8);
        x.learn(4, 8);
        Due.is("the upper of two", x.heard(3), 0);
        x.learn(2, 0);
        x.learn(4, 0);
        x.learn(1, 8);
        Due.is("1 tells 0, 2, 3; 4 comes, 2 tells 4", x.heard(3), 1);
        x.come(0, 1);
        Due.is("0 comes, 1 tells 2, 3; 4 comes, 2 tells 4", x.heard(3), 2);
    }

    private static void heardAtTheLimit() {
        MiddleSpeaks six = scene(new int[] {70, 70, 80, 40, 60}, new int[] {3, 0, 1, 2, 2}, new int[] {4, 5, 0}, new int[] {1, 1, 4},
            "bar p=3&n=1&n>1;bar p<3&!r=2&!n<2;bar r=0&n>4;bar n<2&n>3;bar p>0&r=2&r<2;bar p>0&r<1&p<1;bar n=3");
        six.learn(4, 1);
        Due.is("behind 6", six.heard(0), 6);
        MiddleSpeaks seven = scene(new int[] {0, 60, 10, 40, 70}, new int[] {2, 3, 3, 2, 1}, new int[] {0, 1, 1}, new int[] {0, 4, 0},
            "bar n=5;bar n>1&!r=0;bar r<0&p=2&r=0;bar n=4&n>2&n<5;bar r=2&!n<3&!r>2;bar r<0&!r<1;bar n=3&!n=4&r>2");
        seven.learn(1, 1);
        Due.is("behind 7", seven.heard(0), -5);
    }

    /** Promise 17. */
    private static void secret() {
        MiddleSpeaks x = Due.withPeople(new int[] {10, 20, 30}, new int[3], new int[] {0, 0, 0});
        Due.is("none knows", x.secret(0, 1, 0), -5);
        x.learn(0, 1);
        Due.is("now: it is no middle one", x.secret(0, 1, 0), 0);
        Due.is("0 would hear it from none", x.secret(1, 0, 0), -5);
        Due.is("the youngest speaks alone or not at all", x.secret(1, 2, 0), -5);
        x.room(1, 1, 0);
        Due.is("0 and 1 go to 1, 0 is the lower", x.secret(1, 2, 0), 2);
        Due.is("0 and 2 go to 1", x.secret(2, 1, 0), 2);
        x.learn(1, 1);
        Due.is("1 speaks at once", x.secret(1, 2, 0), -5);
        x.come(1, 3);
        Due.is("now away", x.secret(1, 2, 0), 0);
        for (int wrong : new int[] {-1, 3, MIN, MAX}) {
            Due.is("one " + wrong, x.secret(wrong, 1, 0), -1);
            Due.is("other " + wrong, x.secret(1, wrong, 0), -1);
            Due.is("both " + wrong, x.secret(wrong, wrong, 0), -1);
        }
        for (int wrong : new int[] {-1, 8, MIN, MAX}) {
            Due.is("thing " + wrong, x.secret(0, 1, wrong), -1);
            Due.is("thing ahead of one person " + wrong, x.secret(1, 1, wrong), -1);
        }
        Due.is("one person", x.secret(1, 1, 0), -2);
    }

    private static void secretAtTheLimit() {
        MiddleSpeaks six = scene(new int[] {70, 40, 90, 0, 30}, new int[] {2, 3, 3, 3, 0}, new int[] {0, 0, 2}, new int[] {1, 1, 3},
            "bar n=2&!p=2;bar p>4&r<0;bar r>3&!n<5;bar n=1;bar r>2;bar n<2&r=0&!r>1;bar n>2&!n=5&r=3;bar r>2");
        six.learn(1, 1);
        Due.is("behind 6", six.secret(0, 2, 0), 6);
        MiddleSpeaks seven = scene(new int[] {10, 20, 0, 60}, new int[] {2, 3, 3, 2}, new int[] {2, 0, 5}, new int[] {2, 2, 4},
            "bar r<0&p>0&!r<2;bar n<3&r>3&!r=0;bar r>3&!n>5&p>0;bar n=5&r<2&!n=1;bar p>3&n>3;bar n<1&!n=2;bar r<2");
        seven.learn(1, 1);
        Due.is("behind 7", seven.secret(0, 3, 0), -5);
    }

    /** Promise 18. */
    private static void game() {
        Due.is("nobody", new MiddleSpeaks().game(0, 0, 3), 0);
        MiddleSpeaks x = Due.withPeople(new int[] {10, 20, 30}, new int[3], new int[] {0, 0, 3});
        Due.is("1 goes", x.game(0, 1, 1), 1);
        Due.is("the other has the last turn", x.game(0, 1, 2), 0);
        Due.is("none of a party", x.game(0, 0, 1), 0);
        Due.is("all are of it", x.game(0, 7, 1), 1);
        Due.is("2 comes: 1 is the middle one", x.game(0, 2, 1), 1);
        Due.is("in two turns 0 goes", x.game(0, 2, 2), 0);
        Due.is("0 goes out, 1 is alone, 2 goes in: two", x.game(0, 4, 3), 0);
        x.come(2, 0);
        Due.is("no coming is best", x.game(0, 2, 1), 1);
        x.room(0, 4, 0);
        x.come(0, 1);
        Due.is("both of two may speak, of two parties", x.inside(0, 3), 6);
        Due.is("so 2 goes", x.game(0, 2, 1), 1);
        Due.house(x, "bar p<3", 0);
        Due.is("none may come: not won by both", x.game(0, 2, 3), 0);
        Due.is("won by both as one party", x.game(0, 6, 3), 1);
        x.room(0, 5, 1);
        Due.is("the turn of 1 of two: (2 and 1) modulo 2", x.inside(0, 3), 4);
        Due.is("no coming, so no turning", x.game(0, 4, 3), 1);
        Due.is("not for the other", x.game(0, 2, 3), 0);
        for (int wrong : new int[] {-1, 8, 32, MIN, MAX}) {
            Due.is("party " + wrong, x.game(0, wrong, 1), -2);
            Due.is("room ahead of party " + wrong, x.game(3, wrong, 1), -1);
        }
        for (int wrong : new int[] {-1, 0, 4, MIN, MAX}) {
            Due.is("n " + wrong, x.game(0, 1, wrong), -2);
            Due.is("room ahead of n " + wrong, x.game(-1, 1, wrong), -1);
        }
    }

    private static void wrongNumbers() {
        MiddleSpeaks x = Due.withPeople(new int[] {1, 2}, new int[2], new int[2]);
        for (int wrong : new int[] {-1, 3, MIN, MAX}) {
            Due.is("soonest room " + wrong, x.soonest(0, wrong, 0), -1);
            Due.is("cheapest room " + wrong, x.cheapest(0, wrong, 0), -1);
            Due.is("never room " + wrong, x.never(wrong), -1);
            Due.is("game room " + wrong, x.game(wrong, 1, 1), -1);
        }
        for (int wrong : new int[] {-1, 2, 5, MIN, MAX}) {
            Due.is("soonest person " + wrong, x.soonest(wrong, 0, 0), -1);
            Due.is("soonest what " + wrong, x.soonest(0, 0, wrong), -1);
            Due.is("cheapest person " + wrong, x.cheapest(wrong, 0, 0), -1);
        }
        for (int wrong : new int[] {-1, 8, 32, MIN, MAX}) {
            Due.is("heard thing " + wrong, x.heard(wrong), -1);
        }
    }

    private static void nothingChanges() {
        MiddleSpeaks x = Due.withPeople(new int[] {10, 20, 30}, new int[3], new int[] {0, 1, 0});
        x.learn(0, 1);
        x.come(1, 0);
        x.soonest(0, 1, 0);
        x.cheapest(0, 1, 4);
        x.never(1);
        x.heard(0);
        x.secret(1, 2, 0);
        x.game(0, 1, 3);
        x.lot(0, 2, 0);
        Due.is("comings", x.told(1), 1);
        Due.is("cost", x.told(2), 1);
        Due.is("all in 0", x.inside(0, 2), 7);
        Due.is("0 knows", x.of(0, 3), 1);
        Due.is("others not", x.of(1, 3) + x.of(2, 3), 0);
    }
}
