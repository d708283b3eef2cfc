/** The text and the houses that are read from it: promises 7 to 9. */
final class HousesTest {
    private static final String DIGITS = "0123456789", FACTOR = "prankt(!", WORDS = "pbws";

    public static void main(String[] args) {
        run();
        Due.end();
    }

    static void run() {
        feed();
        refusedSigns();
        wholeText();
        house();
        sixHouses();
        newestHolds();
        withoutHouse();
        clauses();
        lastOfTenClauses();
        blanksAndDigits();
        conditions();
        signsThatGoOn();
        signsThatGoOnInCondition();
        within();
        faults();
        tooEarly();
        told();
    }

    private static void reads(String text) {
        Due.house(new MiddleSpeaks(), text, 0);
    }

    private static void fails(String text, int fault) {
        MiddleSpeaks x = new MiddleSpeaks();
        Due.house(x, text, -10 - fault);
        Due.is("no house of '" + text + "'", x.count(1), 0);
    }

    private static void feed() {
        MiddleSpeaks x = new MiddleSpeaks();
        Due.promise(7, "A sign (0 .. 127) comes behind THE TEXT's: how many it has.");
        Due.is("the least", x.feed(0), 1);
        Due.is("the most", x.feed(127), 2);
        Due.is("two", x.count(4), 2);
        Due.is("they fit nowhere", x.house(), -10);
        for (int i = 0; i < 6; i++) {
            Due.is("sign " + i, x.feed("same 7".charAt(i)), i + 1);
        }
        Due.is("each came behind the others", x.house(), 0);
        Due.is("same 7", x.told(0), 7);
    }

    private static void refusedSigns() {
        MiddleSpeaks x = new MiddleSpeaks();
        Due.promise(7, "BAD;");
        for (int wrong : Due.beside(0, 127)) {
            Due.is("sign " + wrong, x.feed(wrong), -2);
        }
        Due.is("none came", x.count(4), 0);
        Due.promise(7, "FULL.");
        for (int i = 1; i <= 100; i++) {
            Due.is("the " + i + "th", x.feed('a'), i);
        }
        Due.is("the 101st", x.feed('a'), -4);
        Due.is("bad ahead of full", x.feed(128), -2);
        Due.is("bad below ahead of full", x.feed(-1), -2);
        Due.is("still full", x.feed(0), -4);
        Due.is("100", x.count(4), 100);
        Due.is("empty behind its fault", x.house(), -10);
        Due.is("again", x.feed('b'), 1);
    }

    /** 24 tests in a row with a sign between, in 100 bytes: the last one has two digits. */
    private static String longest(String last) {
        StringBuilder text = new StringBuilder("bar ");
        for (int i = 0; i < 23; i++) {
            text.append("p=1|");
        }
        return text.append(last).toString();
    }

    private static void wholeText() {
        Due.term("A HOUSE is read from THE TEXT (bytes, 100 at most):");
        MiddleSpeaks x = Due.withPeople(new int[3], new int[3], new int[3]);
        Due.house(x, longest("p=02"), 0);
        Due.is("empty then", x.count(4), 0);
        Due.is("its first test", x.coming(1, 1, 1), 1);
        Due.is("its last test", x.coming(2, 1, 1), 1);
        Due.is("none of its tests", x.coming(0, 1, 1), 0);
        MiddleSpeaks y = new MiddleSpeaks();
        Due.feed(y, longest("p=02"));
        Due.is("one more", y.feed(';'), -4);
        Due.is("so it is whole", y.house(), 0);
        Due.house(y, longest("p=0&"), -110);
        Due.house(y, longest("p=02").substring(1), -10);
        Due.house(y, longest("p=0"), 1);
    }

    private static void house() {
        MiddleSpeaks x = new MiddleSpeaks();
        Due.promise(8, "THE TEXT, which is empty then, is a HOUSE, and holds: its number.");
        Due.house(x, "same 7", 0);
        Due.is("the text is empty", x.count(4), 0);
        Due.is("it holds", x.told(0), 7);
        Due.is("one", x.count(1), 1);
        Due.house(x, "bar p=0", 1);
        Due.is("two", x.count(1), 2);
        Due.promise(8, "-10 less the FAULT (the one that held holds).");
        Due.house(x, "same 8", 2);
        Due.is("of no text", x.house(), -10);
        Due.house(x, "same 9 ", -16);
        Due.is("the text is empty, too", x.count(4), 0);
        Due.is("the one that held", x.told(0), 8);
        Due.is("three", x.count(1), 3);
        Due.house(x, "same 6;price 9 p<9;same x", -34);
        Due.is("nothing of what was read ahead of the fault", x.told(0), 8);
        Due.house(x, "same 5", 3);
        Due.is("the number goes on", x.told(0), 5);
        MiddleSpeaks y = Due.withPeople(new int[1], new int[1], new int[1]);
        Due.house(y, "same 6;price 9 p=0;bar p=0;", -37);
        Due.is("no house yet", y.coming(0, 1, 0), 1);
        Due.house(y, "bar p=9", 0);
        Due.is("no same of the text with a fault", y.told(0), 0);
        Due.is("no price of it", y.coming(0, 1, 0), 1);
        Due.is("no bar of it", y.coming(0, 1, 1), 0);
        for (int i = 0; i < 3; i++) {
            Due.house(y, longest("p=1&"), -110);
        }
        Due.house(y, "bar p=9|p=0", 1);
        Due.is("no test of the longest texts with a fault", y.coming(0, 1, 1), 1);
    }

    private static void sixHouses() {
        MiddleSpeaks x = new MiddleSpeaks();
        Due.promise(8, "FULL: there are 6 (THE TEXT stays);");
        for (int i = 0; i < 6; i++) {
            Due.house(x, "same " + (i + 1), i);
        }
        Due.is("no text", x.house(), -4);
        Due.feed(x, "same 9");
        Due.is("a seventh", x.house(), -4);
        Due.is("the text stays", x.count(4), 6);
        Due.is("the sixth holds", x.told(0), 6);
        Due.is("six", x.count(1), 6);
        Due.is("it goes on", x.feed('!'), 7);
        Due.is("full ahead of the fault", x.house(), -4);
        Due.is("it stays, too", x.count(4), 7);
    }

    private static void newestHolds() {
        MiddleSpeaks x = Due.withPeople(new int[] {10, 11}, new int[2], new int[] {0, 1});
        Due.term("The newest HOUSE holds (6 at most);");
        for (int i = 0; i < 6; i++) {
            Due.house(x, "same " + (6 - i) + ";price " + (10 + i) + " p=0", i);
            Due.is("same", x.told(0), 6 - i);
            Due.is("price", x.coming(0, 1, 0), 11 + i);
        }
    }

    private static void withoutHouse() {
        Due.term("without one there are no CLAUSES.");
        MiddleSpeaks x = Due.withPeople(new int[] {10, 10, 10}, new int[3], new int[3]);
        Due.is("same", x.told(0), 0);
        Due.is("ages that are as one are none", x.inside(0, 3), 2);
        x.learn(1, 1);
        Due.is("worth", x.say(1, 0), 0);
        for (int place = 1; place < 4; place++) {
            Due.is("price", x.coming(0, place, 0), 1);
            Due.is("barred", x.coming(0, place, 1), 0);
        }
    }

    private static void clauses() {
        Due.term("CLAUSES, 1 to 10, with ; between: price n E; bar E; worth n E; same n");
        fails("", 0);
        reads("price 1 p=1");
        reads("bar p=1");
        reads("worth 1 p=1");
        reads("same 1");
        StringBuilder text = new StringBuilder("same 0");
        for (int n = 2; n <= 10; n++) {
            text.append(";same ").append(n - 1);
            reads(text.toString());
        }
        fails(text + ";", text.length());
        fails(text + ";same 1", text.length());
        fails(text + ";;", text.length());
        fails(";same 1", 0);
        fails("same 1;", 7);
        fails("same 1;;same 2", 7);
        fails("same 1 same 2", 6);
        fails("same 1,same 2", 6);
        fails("price 1", 7);
        fails("price p=1", 6);
        fails("worth p=1", 6);
        fails("bar 1 p=1", 4);
        fails("same 1 p=1", 6);
        fails("same p=1", 5);
        fails("samebar", 4);
        fails("Same 1", 0);
        fails("worst 1 t=1", 3);
    }

    private static void lastOfTenClauses() {
        String nine = "same 1;same 2;same 3;same 4;same 5;same 6;same 7;same 8;same 9;";
        MiddleSpeaks x = Due.withPeople(new int[] {10, 40}, new int[2], new int[2]);
        x.room(0, 1, 0);
        x.learn(0, 3);
        Due.house(x, nine + "price 7 p=0", 0);
        Due.is("price", x.coming(0, 1, 0), 8);
        Due.house(x, nine + "bar p=0", 1);
        Due.is("bar", x.coming(0, 1, 1), 1);
        Due.is("none of ten holds", x.coming(1, 1, 1), 0);
        Due.is("no price of ten", x.coming(1, 1, 0), 1);
        Due.house(x, nine + "worth 5 p=1", 2);
        Due.is("worth", x.say(0, 0), 5);
        Due.house(x, nine + "same 30", 3);
        Due.is("same", x.told(0), 30);
        Due.house(x, "bar p=0;" + nine.substring(7) + "same 0", 4);
        Due.is("the first of ten", x.coming(0, 1, 1), 1);
    }

    private static void blanksAndDigits() {
        Due.term("(one blank ahead of each part behind the word; n 1 or 2 digits).");
        reads("price 0 p=1");
        reads("price 9 p=1");
        reads("price 00 p=1");
        reads("price 99 p=1");
        fails("price 100 p=1", 8);
        fails("price p=1", 6);
        fails("price  p=1", 6);
        fails("price -1 p=1", 6);
        fails("price5 p=1", 5);
        fails("price  5 p=1", 6);
        fails("price 5p=1", 7);
        fails("price 55p=1", 8);
        fails("price 5  p=1", 8);
        fails("price 55  p=1", 9);
        reads("worth 99 p=1");
        fails("worth 001 p=1", 8);
        fails("worth  1 p=1", 6);
        fails("barp=1", 3);
        fails("bar  p=1", 4);
        fails("bar p=1 ", 7);
        reads("same 0");
        reads("same 99");
        fails("same 100", 7);
        fails("same", 4);
        fails("same ", 5);
        fails("same1", 4);
        fails("same  1", 5);
        fails("same 1 ", 6);
        fails("same 1 ;same 2", 6);
        fails("same 1; same 2", 7);
        fails(" same 1", 0);
        MiddleSpeaks x = Due.withPeople(new int[1], new int[1], new int[1]);
        Due.house(x, "price 07 p=0;same 09", 0);
        Due.is("price 07", x.coming(0, 1, 0), 8);
        Due.is("same 09", x.told(0), 9);
        Due.house(x, "price 99 p=0;same 99", 1);
        Due.is("price 99", x.coming(0, 1, 0), 100);
        Due.is("same 99", x.told(0), 99);
        Due.house(x, "price 0 p=0;same 00", 2);
        Due.is("price 0", x.coming(0, 1, 0), 1);
        Due.is("same 00", x.told(0), 0);
    }

    /** What conditions hold for a coming of person 2 (age 47) to place 1 of kind 4. */
    private static void conditions() {
        Due.term("E: T or T|E. T: F or F&T. F: !F, (E), or a TEST: a letter, < or = or >, a number (1 or 2 digits):");
        holds("p=2", 1, "p=1", 0, "p<3", 1, "p<2", 0, "p>1", 1, "p>2", 0);
        holds("p=02", 1, "p=0", 0, "p=00", 0, "p<99", 1, "p<0", 0, "p>99", 0, "p<03", 1);
        holds("!p=2", 0, "!p=1", 1, "!!p=2", 1, "!!!p=2", 0, "!!!!p=2", 1);
        holds("p=1|r=1", 1, "p=1&r=1", 0, "p=2&r=1", 1, "p=1|r=2", 0);
        holds("p=2|p=1&p=1", 1, "p=1&p=1|p=2", 1, "(p=2|p=1)&p=1", 0, "p=1&(p=1|p=2)", 0);
        holds("!p=1&p=2", 1, "!p=2|p=2", 1, "!(p=2|p=1)", 0, "!(p=2&p=1)", 1, "!p=2&p=1", 0);
        holds("p=2&p=2&p=1|p=1|p=1&p=2", 0, "p=1|p=1|p=2", 1, "p=2&p=2&p=2", 1, "p=2&p=2&p=1", 0);
        holds("((!(p=1)&r=1))&!(r=3|!(a=4))", 1, "p=02&r=01", 1, "((((p=2))))", 1, "((((p=1))))", 0);
        holds("!(!(p=2))", 1, "(((p=2)&p=1)|p=2)&p=2", 1, "p=1|(p=1|(p=1|(p=2)))", 1, "p=2&(p=2&(p=2&(p=1)))", 0);
        fails("bar ()", 5);
        fails("bar p<=1", 6);
        fails("bar p=>1", 6);
        fails("bar p==1", 6);
        fails("bar p!=1", 5);
        fails("bar 1=p", 4);
        fails("bar pr=1", 5);
        fails("bar p", 5);
        fails("bar p=", 6);
        fails("bar p=x", 6);
        reads("bar p=0");
        reads("bar p=99");
        fails("bar p=100", 8);
        fails("bar p=1||r=1", 8);
        fails("bar p=1&&r=1", 8);
        fails("bar p=1!r=1", 7);
        fails("bar p=1(r=1)", 7);
        fails("bar (p=1)r=1", 9);
        fails("bar (p=1)(r=1)", 9);
        fails("bar |p=1", 4);
        fails("bar !&p=1", 5);
        fails("bar p=1|", 8);
        fails("bar p=1&", 8);
    }

    private static void holds(Object... some) {
        for (int i = 0; i < some.length; i += 2) {
            MiddleSpeaks x = Due.withPeople(new int[] {10, 20, 47}, new int[3], new int[] {1, 2, 0});
            x.room(1, 4, 0);
            Due.house(x, "price 9 " + some[i], 0);
            Due.is("price by " + some[i], x.coming(2, 1, 0), 1 + 9 * (Integer) some[i + 1]);
            Due.house(x, "bar " + some[i], 1);
            Due.is("barred by " + some[i], x.coming(2, 1, 1), (Integer) some[i + 1]);
        }
    }

    /** Of all 128 signs behind a text just some are no fault. */
    private static void goOn(String text, String some) {
        for (int sign = 0; sign < 128; sign++) {
            MiddleSpeaks x = new MiddleSpeaks();
            Due.feed(x, text);
            x.feed(sign);
            int answer = x.house();
            boolean isNoFault = answer >= 0 || answer == -10 - text.length() - 1;
            Due.is("'" + text + "' goes on with sign " + sign, isNoFault ? 1 : 0, some.indexOf(sign) < 0 ? 0 : 1);
            Due.is("'" + text + "' has no fault ahead of sign " + sign, answer >= 0 || answer <= -10 - text.length() ? 1 : 0, 1);
        }
    }

    private static void signsThatGoOn() {
        Due.term("The FAULT: the place of the first byte with which none begins so");
        goOn("", WORDS);
        goOn("p", "r");
        goOn("pr", "i");
        goOn("pric", "e");
        goOn("price", " ");
        goOn("price ", DIGITS);
        goOn("price 5", DIGITS + " ");
        goOn("price 55", " ");
        goOn("price 5 ", FACTOR);
        goOn("b", "a");
        goOn("bar", " ");
        goOn("bar ", FACTOR);
        goOn("wort", "h");
        goOn("worth 12", " ");
        goOn("sam", "e");
        goOn("same ", DIGITS);
        goOn("same 1", DIGITS + ";");
        goOn("same 12", ";");
        goOn("same 12;", WORDS);
        goOn("bar p=1;", WORDS);
    }

    private static void signsThatGoOnInCondition() {
        goOn("bar p", "<=>");
        goOn("bar t>", DIGITS);
        goOn("bar t>1", DIGITS + "|&;");
        goOn("bar t>12", "|&;");
        goOn("bar t>12|", FACTOR);
        goOn("bar t>12&", FACTOR);
        goOn("bar !", FACTOR);
        goOn("bar !t>1", DIGITS + "|&;");
        goOn("bar (", FACTOR);
        goOn("bar (k<1", DIGITS + "|&)");
        goOn("bar (k<12", "|&)");
        goOn("bar (k<12)", "|&;");
        goOn("bar ((k<12)", "|&)");
        goOn("bar (((", FACTOR);
        goOn("bar ((((", "prankt");
        goOn("bar !!!!", "prankt");
        goOn("bar (!(!", "prankt");
        goOn("bar (!(!p=1|", "prankt(!");
    }

    private static void within() {
        Due.term("A ( or ! within 4 others is none.");
        reads("bar ((((p=1))))");
        fails("bar (((((p=1)))))", 8);
        reads("bar !!!!p=1");
        fails("bar !!!!!p=1", 8);
        reads("bar !(!(p=1))");
        fails("bar !(!(!p=1))", 8);
        fails("bar !(!((p=1)))", 8);
        fails("bar (((!!p=1)))", 8);
        reads("bar !(!(p=1)|p=2&r=3)&(p<1)|!!!!t>99");
        reads("bar !(!(p=1))&!(!(p=1))|((!!p=1))");
        reads("bar (((!p=1|!r=1)&!a=1)|!(!n=1))");
        fails("bar !(!p=1|!!p=2|!!!p=3)", 19);
        fails("bar ((((p=1)|(p=1))|((p=1)&((p=1)))))", 28);
        reads("bar !!!!p=1;bar ((((p=1))))");
    }

    private static void faults() {
        fails("bar (p=1;", 8);
        fails("bar p=1)", 7);
        fails("bar (p=1))", 9);
        fails("bar p =1", 5);
        fails("bar b=1", 4);
        fails("bar p=1|!)", 9);
        fails("bar (!)", 6);
        fails("price 1 p=1;bar p=1;worth 1 q=1", 28);
        fails("bar p=1;bar", 11);
        fails("x", 0);
        // two are wrong: the first one counts
        fails("bar b=1;same x", 4);
    }

    private static void tooEarly() {
        Due.term("(the end of THE TEXT, if it ends too early).");
        String whole = "price 12 !(p=1|r=2&!a=3)";
        for (int end = 0; end < whole.length(); end++) {
            fails(whole.substring(0, end), end);
        }
        reads(whole);
        for (String word : new String[] {"bar (n>1)", "worth 3 !t=1", "same 4"}) {
            for (int end = 0; end < word.length() - 1; end++) {
                fails("same 1;" + word.substring(0, end), 7 + end);
            }
            reads("same 1;" + word);
        }
        fails("bar (p=1", 8);
        fails("bar (p=1&", 9);
        fails(longest("p=1;"), 100);
        fails(longest("p=1|"), 100);
        fails(longest("p="), 98);
    }

    private static void told() {
        MiddleSpeaks x = Due.withPeople(new int[] {1, 2}, new int[2], new int[] {0, 1});
        Due.promise(9, "What 0 same, 1 COMINGS, 2 COST.");
        Due.house(x, "same 12;price 4 r=2", 0);
        x.come(0, 2);
        x.come(1, 0);
        Due.is("same", x.told(0), 12);
        Due.is("comings", x.told(1), 2);
        Due.is("cost", x.told(2), 6);
        Due.promise(9, "NONE.");
        for (int wrong : Due.beside(0, 2)) {
            Due.is("told " + wrong, x.told(wrong), -1);
        }
        Due.term("same (0 without): the last one's n.");
        Due.house(x, "same 12;same 3", 1);
        Due.is("the last of two", x.told(0), 3);
        Due.house(x, "same 3;same 0", 2);
        Due.is("the last one is 0", x.told(0), 0);
        Due.house(x, "same 5;bar p=9", 3);
        Due.is("the last of one, ahead of others", x.told(0), 5);
        Due.house(x, "bar p=9", 4);
        Due.is("without same", x.told(0), 0);
    }
}
