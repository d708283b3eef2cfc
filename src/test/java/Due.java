/** What the tests share: they tell each answer that is not the one due, and the words of the document that ask for it. */
final class Due {
    static final int MIN = Integer.MIN_VALUE, MAX = Integer.MAX_VALUE;
    private static int wrong = 0;
    private static int asked = 0;
    private static String words = "";

    private Due() {
    }

    /** The answers from here on are those that these words of the terms ask for. */
    static void term(String some) {
        says(0, some);
    }

    /** The answers from here on are those that these words of a promise ask for. */
    static void promise(int number, String some) {
        says(number, some);
    }

    private static void says(int part, String some) {
        words = (part == 0 ? "Terms" : "Promise " + part) + ", '" + some + "'";
        is("that the document says this just once, in this part", Doc.standFor(part, some) ? 1 : 0, 1);
    }

    static void is(String call, long got, long want) {
        asked++;
        if (got != want) {
            wrong++;
            System.out.println(words + ": " + call + " answered " + got + ", due is " + want);
        }
    }

    /** Numbers beside least .. most: just beside it, far off, and those whose lowest bits lie in it. */
    static int[] beside(int least, int most) {
        return new int[] {least - 1, most + 1, least + 256, least + 65536, MIN, MIN + least, MAX};
    }

    static void feed(MiddleSpeaks x, String text) {
        int before = x.count(4);
        for (int i = 0; i < text.length(); i++) {
            is("feed of " + text + " at " + i, x.feed(text.charAt(i)), before + i + 1);
        }
    }

    /** Feeds a text and tells what house() answers to it. */
    static void house(MiddleSpeaks x, String text, int want) {
        feed(x, text);
        is("house of '" + text + "'", x.house(), want);
    }

    static MiddleSpeaks withPeople(int[] ages, int[] heights, int[] places) {
        MiddleSpeaks x = new MiddleSpeaks();
        for (int i = 0; i < ages.length; i++) {
            is("person " + i, x.person(ages[i], heights[i], places[i]), i);
        }
        return x;
    }

    static int wrongOnes() {
        return wrong;
    }

    static void end() {
        System.out.println(wrong == 0 ? asked + " answers are as due" : wrong + " answers are not as due");
        if (wrong > 0) {
            System.exit(1);
        }
    }
}
