/** The line of a room, and who may speak in it. */
final class SpeakersTest {
    private static final int ROOM = 0, LOWER = 1, ELDER = 2, TALL = 3, BOTH = 4, TURNING = 5, SMALL = 6;

    public static void main(String[] args) {
        run();
        Due.end();
    }

    static void run() {
        lines();
        room();
        lower();
        elder();
        both();
        turning();
        turningByComings();
        small();
        near();
        nearByHeight();
        nearInEachKind();
        nearAmongOthers();
    }

    /** Who may speak in a room, as bits, told in both ways. */
    private static void speak(String call, MiddleSpeaks x, int room, int due) {
        Due.is(call, x.inside(room, 3), due);
        for (int who = 0; who < x.count(0); who++) {
            if (x.of(who, 2) == room) {
                Due.is(call + ", of " + who, x.of(who, 4), due >> who & 1);
            }
        }
    }

    /** Who may speak of 0, 1, .. 5, where ages go up with the numbers and heights go down. */
    private static void ofEachNumber(int kind, int v, int... due) {
        MiddleSpeaks x = new MiddleSpeaks();
        x.room(1, kind, v);
        for (int m = 0; m <= 5; m++) {
            speak("kind " + kind + ", v " + v + ", of " + m, x, 1, due[m]);
            x.person(10 * m, 90 - 10 * m, 1);
        }
    }

    private static void lines() {
        int[] ages = {40, 40, 40, 90, 10}, heights = {70, 70, 5, 70, 6};
        MiddleSpeaks x = Due.withPeople(ages, heights, new int[] {0, 0, 0, 0, 0});
        Due.term("THE LINE of a ROOM: those in it by AGE (the least first; of several the least number first); TALL, SMALL: by HEIGHT so.");
        int[] byAge = {4, 0, 1, 2, 3}, byHeight = {2, 4, 0, 1, 3};
        for (int v = 0; v < 5; v++) {
            x.room(0, ELDER, v);
            speak("the eldest but " + v, x, 0, 1 << byAge[4 - v]);
            x.room(0, TURNING, v);
            speak("at place " + v, x, 0, 1 << byAge[v]);
        }
        x.room(0, ROOM, 0);
        speak("the middle one by age", x, 0, 1 << byAge[2]);
        x.room(0, TALL, 0);
        speak("the middle one by height", x, 0, 1 << byHeight[2]);
        x.room(0, SMALL, 4);
        speak("the first by height", x, 0, 1 << byHeight[0]);
        x.come(2, 1);
        x.come(3, 1);
        speak("of several the least number: 4, 0, 1 by height", x, 0, 1);
        x.come(4, 1);
        x.room(0, SMALL, 1);
        speak("the first of two of one height", x, 0, 1);
        x.room(0, LOWER, 1);
        speak("the first of two of one age", x, 0, 1);
        x.room(1, ROOM, 0);
        speak("4, 2, 3", x, 1, 4);
    }

    private static void room() {
        Due.term("MAY SPEAK in a ROOM (of m in it; places of THE LINE from 0): ROOM, TALL: if m is odd, the one at place (m less 1) by 2.");
        ofEachNumber(ROOM, 0, 0, 1, 0, 2, 0, 4);
        ofEachNumber(ROOM, 9, 0, 1, 0, 2, 0, 4);
        ofEachNumber(TALL, 0, 0, 1, 0, 2, 0, 4);
        ofEachNumber(TALL, 9, 0, 1, 0, 2, 0, 4);
    }

    private static void lower() {
        Due.term("LOWER: that at place (m less 1) by 2 (cut), also if m is even (m above 0).");
        ofEachNumber(LOWER, 0, 0, 1, 1, 2, 2, 4);
        ofEachNumber(LOWER, 9, 0, 1, 1, 2, 2, 4);
    }

    private static void elder() {
        Due.term("ELDER: that at place m less 1 less v (none, if there is none such).");
        ofEachNumber(ELDER, 0, 0, 1, 2, 4, 8, 16);
        ofEachNumber(ELDER, 1, 0, 0, 1, 2, 4, 8);
        ofEachNumber(ELDER, 2, 0, 0, 0, 1, 2, 4);
        ofEachNumber(ELDER, 3, 0, 0, 0, 0, 1, 2);
        ofEachNumber(ELDER, 4, 0, 0, 0, 0, 0, 1);
        ofEachNumber(ELDER, 5, 0, 0, 0, 0, 0, 0);
        ofEachNumber(ELDER, 9, 0, 0, 0, 0, 0, 0);
    }

    private static void both() {
        Due.term("BOTH: as LOWER, and if m is even (above 0), also the one behind it.");
        ofEachNumber(BOTH, 0, 0, 1, 3, 2, 6, 4);
        ofEachNumber(BOTH, 9, 0, 1, 3, 2, 6, 4);
    }

    private static void turning() {
        Due.term("TURNING: that at place (COMINGS and v) modulo m.");
        ofEachNumber(TURNING, 0, 0, 1, 1, 1, 1, 1);
        ofEachNumber(TURNING, 1, 0, 1, 2, 2, 2, 2);
        ofEachNumber(TURNING, 2, 0, 1, 1, 4, 4, 4);
        ofEachNumber(TURNING, 3, 0, 1, 2, 1, 8, 8);
        ofEachNumber(TURNING, 4, 0, 1, 1, 2, 1, 16);
        ofEachNumber(TURNING, 5, 0, 1, 2, 4, 2, 1);
        ofEachNumber(TURNING, 9, 0, 1, 2, 1, 2, 16);
    }

    private static void turningByComings() {
        MiddleSpeaks x = Due.withPeople(new int[] {10, 20, 30, 40}, new int[4], new int[] {0, 0, 0, 1});
        x.room(0, TURNING, 2);
        for (int comings = 0; comings < 8; comings++) {
            speak("behind " + comings, x, 0, 1 << (comings + 2) % 3);
            x.come(3, comings % 2 == 0 ? 2 : 1);
        }
        x.come(3, 0);
        speak("(9 and 2) modulo 4", x, 0, 8);
        x.come(3, 1);
        speak("(10 and 2) modulo 3", x, 0, 1);
        x.come(0, 1);
        x.come(1, 1);
        speak("of one: (12 and 2) modulo 1", x, 0, 4);
        x.come(2, 1);
        speak("of none", x, 0, 0);
    }

    private static void small() {
        Due.term("SMALL: as TALL, but if m is above v: the first of THE LINE.");
        ofEachNumber(SMALL, 0, 0, 1, 2, 4, 8, 16);
        ofEachNumber(SMALL, 1, 0, 1, 2, 4, 8, 16);
        ofEachNumber(SMALL, 2, 0, 1, 0, 4, 8, 16);
        ofEachNumber(SMALL, 3, 0, 1, 0, 2, 8, 16);
        ofEachNumber(SMALL, 4, 0, 1, 0, 2, 0, 16);
        ofEachNumber(SMALL, 5, 0, 1, 0, 2, 0, 4);
        ofEachNumber(SMALL, 9, 0, 1, 0, 2, 0, 4);
    }

    private static void near() {
        Due.term("But, if same is above 0, nobody MAY SPEAK of whose AGE (TALL, SMALL: HEIGHT) that of another one in that ROOM "
            + "is no more than same less or more.");
        MiddleSpeaks x = Due.withPeople(new int[] {20, 25, 31}, new int[] {50, 50, 50}, new int[] {0, 0, 0});
        speak("without a house", x, 0, 2);
        Due.house(x, "same 4", 0);
        speak("5 less is no 4", x, 0, 2);
        Due.house(x, "same 5", 1);
        speak("5 less is 5", x, 0, 0);
        x.come(0, 1);
        x.person(36, 50, 0);
        speak("25, 31, 36: 5 more is 5", x, 0, 0);
        Due.house(x, "same 4", 2);
        speak("5 more is no 4", x, 0, 4);
        Due.house(x, "same 0", 3);
        x.person(31, 50, 0);
        x.room(0, LOWER, 0);
        speak("25, 31, 31, 36: one of one age, but same is 0", x, 0, 4);
        Due.house(x, "same 1", 4);
        speak("same is 1", x, 0, 0);
        Due.house(x, "same 99", 5);
        speak("one alone is near nobody", x, 1, 1);
    }

    private static void nearByHeight() {
        MiddleSpeaks x = Due.withPeople(new int[] {50, 50, 50}, new int[] {0, 99, 48}, new int[] {0, 0, 0});
        x.room(0, TALL, 0);
        Due.house(x, "same 47", 0);
        speak("48 and 0, by height", x, 0, 4);
        Due.house(x, "same 48", 1);
        speak("48 less", x, 0, 0);
        x.room(0, SMALL, 2);
        speak("48 more", x, 0, 0);
        Due.house(x, "same 47", 2);
        speak("48 is more than 47 more", x, 0, 1);
        x.room(0, LOWER, 0);
        speak("by age they are as one", x, 0, 0);
    }

    /** The one at fault is each time the last of the line, near the one ahead of it. */
    private static void nearInEachKind() {
        for (int kind = 0; kind < 7; kind++) {
            MiddleSpeaks x = Due.withPeople(new int[] {10, 13}, new int[] {10, 13}, new int[] {0, 0});
            x.person(99, 99, 1);
            x.room(0, kind, 0);
            int due = x.inside(0, 3);
            Due.house(x, "same 2", 0);
            speak("3 is not near, kind " + kind, x, 0, due);
            Due.house(x, "same 3", 1);
            speak("3 is near, kind " + kind, x, 0, 0);
            x.come(1, 1);
            speak("0 is alone, kind " + kind, x, 0, 1);
            Due.house(x, "same 99", 2);
            x.come(1, 3);
            speak("those who are elsewhere are not near, kind " + kind, x, 0, 1);
        }
    }

    private static void nearAmongOthers() {
        MiddleSpeaks both = Due.withPeople(new int[] {10, 20, 30, 33}, new int[4], new int[] {0, 0, 0, 0});
        both.room(0, BOTH, 0);
        speak("both", both, 0, 6);
        Due.house(both, "same 9;same 3", 0);
        speak("the lower alone", both, 0, 2);
        Due.house(both, "same 10", 1);
        speak("neither", both, 0, 0);
        MiddleSpeaks last = Due.withPeople(new int[] {7, 5, 3, 1, 9}, new int[5], new int[] {0, 0, 0, 0, 0});
        Due.house(last, "same 2", 0);
        speak("both beside 1", last, 0, 0);
        last.room(0, ELDER, 0);
        speak("0 beside the eldest", last, 0, 0);
        last.come(0, 1);
        speak("nobody beside the eldest", last, 0, 16);
        last.room(0, TURNING, 8);
        speak("9 modulo 4: 2, beside 1 and 3", last, 0, 0);
    }
}
