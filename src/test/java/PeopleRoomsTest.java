/** People and rooms: promises 1 to 6. */
final class PeopleRoomsTest {
    private static final int[] NO_ROOMS = Due.beside(0, 2), NO_PLACES = Due.beside(0, 3);

    public static void main(String[] args) {
        run();
        Due.end();
    }

    static void run() {
        newObject();
        comingOfPeople();
        refusedPeople();
        whatPeopleAre();
        outIsNoRoom();
        learn();
        refusedLearning();
        room();
        refusedRooms();
        inside();
        refusedInside();
    }

    private static void newObject() {
        MiddleSpeaks x = new MiddleSpeaks();
        Due.promise(1, "Nobody, no HOUSE.");
        for (int what = 0; what < 6; what++) {
            Due.is("count " + what, x.count(what), 0);
        }
        for (int who = 0; who < 5; who++) {
            Due.is("of person " + who, x.of(who, 0), -1);
        }
        Due.is("same, as there is no house", x.told(0), 0);
        Due.term("ROOMS 0, 1, 2, each of a KIND: 0 ROOM (at first);");
        for (int room = 0; room < 3; room++) {
            Due.is("kind of " + room, x.inside(room, 0), 0);
        }
        Due.term("with a number v (0 .. 9; 0 at first).");
        for (int room = 0; room < 3; room++) {
            Due.is("v of " + room, x.inside(room, 1), 0);
        }
        Due.is("v 9", x.room(1, 0, 9), 0);
        Due.is("v is 9", x.inside(1, 1), 9);
        Due.is("v 0", x.room(1, 0, 0), 0);
        Due.is("v is 0", x.inside(1, 1), 0);
        Due.is("v 10", x.room(1, 0, 10), -2);
        Due.is("v -1", x.room(1, 0, -1), -2);
        Due.term("COMINGS gone: 0 at first; COST together: 0 at first.");
        Due.is("comings", x.told(1), 0);
        Due.is("cost", x.told(2), 0);
    }

    private static void comingOfPeople() {
        Due.term("PEOPLE 0 .. 4, as they come: AGE, HEIGHT (0 .. 99 each), a PLACE, what they KNOW: THINGS 0 .. 7 (bits).");
        int[] ages = {0, 99, 1, 98, 50}, heights = {99, 0, 98, 1, 50}, places = {3, 0, 1, 2, 3};
        MiddleSpeaks x = new MiddleSpeaks();
        for (int who = 0; who < 5; who++) {
            Due.is("how many yet", x.count(0), who);
            Due.is("not yet", x.of(who, 2), -1);
            Due.is("person " + who, x.person(ages[who], heights[who], places[who]), who);
        }
        for (int who = 0; who < 5; who++) {
            Due.is("age of " + who, x.of(who, 0), ages[who]);
            Due.is("height of " + who, x.of(who, 1), heights[who]);
            Due.is("place of " + who, x.of(who, 2), places[who]);
            Due.is("what one knows who came just now: " + who, x.of(who, 3), 0);
        }
        Due.is("a sixth", x.of(5, 0), -1);
        Due.promise(2, "One of the PEOPLE: its number.");
        Due.is("the last one's number", new MiddleSpeaks().person(7, 7, 0), 0);
    }

    private static void refusedPeople() {
        MiddleSpeaks x = new MiddleSpeaks();
        Due.promise(2, "BAD: age, height;");
        for (int wrong : Due.beside(0, 99)) {
            Due.is("age " + wrong, x.person(wrong, 0, 0), -2);
            Due.is("height " + wrong, x.person(0, wrong, 0), -2);
            Due.is("age ahead of place", x.person(wrong, 0, 4), -2);
            Due.is("height ahead of place", x.person(0, wrong, -1), -2);
        }
        Due.promise(2, "NONE: place;");
        for (int wrong : NO_PLACES) {
            Due.is("place " + wrong, x.person(0, 0, wrong), -1);
        }
        Due.is("nobody came", x.count(0), 0);
        Due.promise(2, "FULL: 5.");
        for (int who = 0; who < 5; who++) {
            Due.is("person " + who, x.person(1, 2, 3), who);
        }
        Due.is("full", x.person(1, 2, 3), -4);
        Due.is("age ahead of full", x.person(100, 2, 3), -2);
        Due.is("height ahead of full", x.person(1, -1, 3), -2);
        Due.is("place ahead of full", x.person(1, 2, 4), -1);
        Due.is("still full", x.person(0, 0, 0), -4);
        Due.is("five", x.count(0), 5);
        Due.is("none in 0", x.inside(0, 2), 0);
    }

    private static void whatPeopleAre() {
        MiddleSpeaks x = Due.withPeople(new int[] {30, 50, 40, 20}, new int[] {1, 2, 3, 4}, new int[] {0, 0, 0, 1});
        Due.promise(3, "Of one of the PEOPLE what 0 AGE, 1 HEIGHT, 2 PLACE, 3 KNOWS (bits), 4 whether they MAY SPEAK where they are.");
        Due.is("age", x.of(1, 0), 50);
        Due.is("height", x.of(1, 1), 2);
        Due.is("place", x.of(3, 2), 1);
        x.learn(1, 129);
        Due.is("knows", x.of(1, 3), 129);
        Due.is("the youngest", x.of(0, 4), 0);
        Due.is("the eldest", x.of(1, 4), 0);
        Due.is("the middle one", x.of(2, 4), 1);
        Due.is("one alone", x.of(3, 4), 1);
        Due.promise(3, "NONE.");
        for (int wrong : Due.beside(0, 3)) {
            for (int what = -1; what <= 5; what++) {
                Due.is("of person " + wrong + " what " + what, x.of(wrong, what), -1);
            }
        }
        for (int wrong : Due.beside(0, 4)) {
            Due.is("what " + wrong, x.of(0, wrong), -1);
        }
        for (int what = -1; what <= 5; what++) {
            Due.is("where nobody is", new MiddleSpeaks().of(0, what), -1);
        }
    }

    private static void outIsNoRoom() {
        Due.term("PLACE 3 is OUT.");
        MiddleSpeaks x = Due.withPeople(new int[] {30}, new int[] {1}, new int[] {3});
        Due.is("the place", x.of(0, 2), 3);
        Due.is("one alone may not speak there", x.of(0, 4), 0);
        for (int room = 0; room < 3; room++) {
            Due.is("who is in " + room, x.inside(room, 2), 0);
            Due.is("who may speak in " + room, x.inside(room, 3), 0);
        }
        Due.is("it is no room", x.inside(3, 2), -1);
        Due.is("it has no kind", x.room(3, 1, 0), -1);
    }

    private static void learn() {
        MiddleSpeaks x = Due.withPeople(new int[] {1, 2}, new int[] {1, 2}, new int[] {0, 0});
        Due.promise(4, "One KNOWS just THINGS (0 .. 255, as bits): what they knew.");
        Due.is("all things", x.learn(0, 255), 0);
        Due.is("fewer", x.learn(0, 6), 255);
        Due.is("just those", x.of(0, 3), 6);
        Due.is("not the other", x.of(1, 3), 0);
        Due.is("others", x.learn(0, 128), 6);
        Due.is("just the others", x.of(0, 3), 128);
        Due.is("nothing", x.learn(0, 0), 128);
        Due.is("the least", x.of(0, 3), 0);
    }

    private static void refusedLearning() {
        MiddleSpeaks x = Due.withPeople(new int[] {1, 2}, new int[] {1, 2}, new int[] {0, 0});
        x.learn(0, 6);
        Due.promise(4, "NONE;");
        for (int wrong : Due.beside(0, 1)) {
            Due.is("person " + wrong, x.learn(wrong, 1), -1);
            Due.is("person ahead of things", x.learn(wrong, 256), -1);
        }
        Due.promise(4, "BAD.");
        for (int wrong : Due.beside(0, 255)) {
            Due.is("things " + wrong, x.learn(0, wrong), -2);
        }
        Due.is("as it was", x.of(0, 3), 6);
    }

    private static void room() {
        MiddleSpeaks x = new MiddleSpeaks();
        Due.promise(5, "A ROOM becomes one of a KIND: the KIND that it was.");
        for (int kind = 1; kind <= 6; kind++) {
            Due.is("becomes " + kind, x.room(2, kind, kind + 3), kind - 1);
            Due.is("kind", x.inside(2, 0), kind);
            Due.is("v", x.inside(2, 1), kind + 3);
        }
        Due.is("the least", x.room(2, 0, 0), 6);
        Due.is("the same kind", x.room(2, 0, 5), 0);
        Due.is("another v", x.inside(2, 1), 5);
        Due.is("room 0", x.inside(0, 0) + x.inside(0, 1), 0);
        Due.is("room 1", x.inside(1, 0) + x.inside(1, 1), 0);
    }

    private static void refusedRooms() {
        MiddleSpeaks x = new MiddleSpeaks();
        x.room(2, 3, 4);
        Due.promise(5, "NONE: room, kind;");
        for (int wrong : NO_ROOMS) {
            Due.is("room " + wrong, x.room(wrong, 0, 0), -1);
            Due.is("room ahead of v", x.room(wrong, 0, 10), -1);
        }
        for (int wrong : Due.beside(0, 6)) {
            Due.is("kind " + wrong, x.room(2, wrong, 0), -1);
            Due.is("kind ahead of v", x.room(2, wrong, -1), -1);
        }
        Due.promise(5, "BAD: v.");
        for (int wrong : Due.beside(0, 9)) {
            Due.is("v " + wrong, x.room(2, 1, wrong), -2);
        }
        Due.is("the kind as it was", x.inside(2, 0), 3);
        Due.is("v as it was", x.inside(2, 1), 4);
    }

    private static void inside() {
        MiddleSpeaks x = Due.withPeople(new int[] {9, 8, 7, 6}, new int[] {1, 1, 1, 1}, new int[] {2, 3, 2, 2});
        x.room(2, 3, 8);
        Due.promise(6, "Of a ROOM what 0 KIND, 1 v, 2 who is in it, 3 who MAY SPEAK in it (bits).");
        Due.is("kind", x.inside(2, 0), 3);
        Due.is("v", x.inside(2, 1), 8);
        Due.is("who", x.inside(2, 2), 13);
        Due.is("who speaks", x.inside(2, 3), 4);
        Due.is("nobody", x.inside(0, 2), 0);
        Due.is("nobody speaks", x.inside(0, 3), 0);
        MiddleSpeaks all = Due.withPeople(new int[5], new int[5], new int[] {1, 1, 1, 1, 1});
        Due.is("all are in one", all.inside(1, 2), 31);
        all.room(1, 2, 0);
        Due.is("the last one speaks", all.inside(1, 3), 16);
    }

    private static void refusedInside() {
        MiddleSpeaks x = Due.withPeople(new int[1], new int[1], new int[1]);
        Due.promise(6, "NONE.");
        for (int wrong : NO_ROOMS) {
            for (int what = -1; what <= 4; what++) {
                Due.is("room " + wrong + " what " + what, x.inside(wrong, what), -1);
            }
        }
        for (int wrong : Due.beside(0, 3)) {
            Due.is("what " + wrong, x.inside(0, wrong), -1);
        }
    }
}
