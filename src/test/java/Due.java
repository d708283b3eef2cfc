/** What the tests share: they tell each answer that is not the one due. */
final class Due {
    private static int wrong = 0;
    private static int asked = 0;

    private Due() {
    }

    static void is(String call, long got, long want) {
        asked++;
        if (got != want) {
            wrong++;
            System.out.println(call + " answered " + got + ", due is " + want);
        }
    }

    static void feed(MiddleSpeaks x, String text) {
        for (int i = 0; i < text.length(); i++) {
            is("feed of " + text + " at " + i, x.feed(text.charAt(i)), x.count(4));
        }
    }

    /** Feeds a text and tells what house() answers to it. */
    static void house(MiddleSpeaks x, String text, int want) {
        feed(x, text);
        is("house of '" + text + "'", x.house(), want);
    }

    /** Five people of unlike ages and heights, all in one place. */
    static MiddleSpeaks withPeople(int[] ages, int[] heights, int[] places) {
        MiddleSpeaks x = new MiddleSpeaks();
        for (int i = 0; i < ages.length; i++) {
            is("person " + i, x.person(ages[i], heights[i], places[i]), i);
        }
        return x;
    }

    static int wrongOnes() {
        return wrong;
    }

    static void end() {
        System.out.println(wrong == 0 ? asked + " answers are as due" : wrong + " answers are not as due");
        if (wrong > 0) {
            System.exit(1);
        }
    }
}
