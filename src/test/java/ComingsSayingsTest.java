/** Promises 10 to 12. */
final class ComingsSayingsTest {
    private static final int MIN = Integer.MIN_VALUE, MAX = Integer.MAX_VALUE;
    private static final int[] ODD = {-1, 4, MIN, MAX};

    public static void main(String[] args) {
        coming();
        come();
        mostCost();
        say();
        Due.end();
    }

    private static MiddleSpeaks three() {
        MiddleSpeaks x = Due.withPeople(new int[] {19, 20, 35}, new int[] {1, 2, 3}, new int[] {0, 0, 3});
        x.room(1, 5, 0);
        return x;
    }

    /** Promise 10. */
    private static void coming() {
        MiddleSpeaks x = three();
        Due.is("without a house", x.coming(0, 1, 0), 1);
        Due.is("not barred", x.coming(0, 1, 1), 0);
        Due.house(x, "price 5 a=1;price 20 k=9&n>1;bar r=2|k=5&p=1;price 9 t=99", 0);
        Due.is("a=1 and a coming", x.coming(0, 1, 0), 15);
        Due.is("two out", x.coming(0, 3, 0), 35);
        Due.is("the price of one barred", x.coming(1, 1, 0), 10);
        Due.is("barred by kind", x.coming(1, 1, 1), 1);
        Due.is("barred by room", x.coming(2, 2, 1), 1);
        Due.is("not barred by the kind", x.coming(0, 1, 1), 0);
        for (int wrong : ODD) {
            Due.is("person " + wrong, x.coming(wrong, 1, 0), -1);
            Due.is("place " + wrong, x.coming(0, wrong, 0), -1);
        }
        Due.is("person 3", x.coming(3, 1, 0), -1);
        Due.is("what -1", x.coming(0, 1, -1), -1);
        Due.is("what 2", x.coming(0, 1, 2), -1);
        Due.is("what ahead of there", x.coming(0, 0, 2), -1);
        Due.is("there", x.coming(0, 0, 0), -2);
        Due.is("there, too", x.coming(2, 3, 1), -2);
        Due.is("nothing changed", x.told(1) + x.told(2), 0);
    }

    /** Promise 11. */
    private static void come() {
        MiddleSpeaks x = three();
        Due.house(x, "price 6 n=2;bar r=2&p=0;bar r=1&n=2", 0);
        Due.is("comes", x.come(2, 0), 1);
        Due.is("n is 3 then", x.inside(0, 2), 7);
        Due.is("barred", x.come(0, 2), -3);
        Due.is("goes out", x.come(0, 3), 1);
        Due.is("second out", x.come(1, 3), 7);
        Due.is("alone", x.come(2, 1), 1);
        Due.is("barred as second", x.come(1, 1), -3);
        Due.is("comings", x.told(1), 4);
        Due.is("cost", x.told(2), 10);
        Due.is("place", x.of(1, 2), 3);
        for (int wrong : ODD) {
            Due.is("person " + wrong, x.come(wrong, 1), -1);
            Due.is("place " + wrong, x.come(0, wrong), -1);
        }
        Due.is("there", x.come(1, 3), -2);
        Due.house(x, "bar p<5", 1);
        Due.is("there ahead of barred", x.come(1, 3), -2);
        Due.is("all barred", x.come(1, 0), -3);
        Due.is("comings as they were", x.told(1), 4);
    }

    private static void mostCost() {
        MiddleSpeaks x = Due.withPeople(new int[] {5}, new int[] {5}, new int[] {0});
        Due.house(x, "price 99 p=0;price 99 p=0;price 99 p=0;price 99 p=0;price 99 p=0;price 99 p=0;price 99 p=0", 0);
        for (int i = 1; i <= 20; i++) {
            Due.is("price", x.come(0, i % 2), 694);
            Due.is("cost of " + i, x.told(2), Math.min(9999, 694 * i));
        }
        Due.is("comings", x.told(1), 20);
        Due.is("the cheapest is of these alone", x.cheapest(0, 1, 1), 694);
    }

    /** Promise 12. */
    private static void say() {
        MiddleSpeaks x = Due.withPeople(new int[] {10, 20, 30, 44, 50}, new int[5], new int[] {0, 0, 0, 0, 1});
        x.room(0, 4, 0);
        Due.house(x, "worth 3 n=4;worth 10 p=3&a=4&t=7&r=0;worth 50 p=1;worth 99 r=1", 0);
        x.learn(1, 128);
        x.learn(2, 1);
        x.learn(4, 128);
        Due.is("not the one to speak", x.say(0, 7), -10003);
        Due.is("does not know it", x.say(2, 7), -10003);
        Due.is("0, 2 and 3 hear it", x.say(1, 7), 3 + 3 + 13);
        Due.is("all know it then", x.of(0, 3) + x.of(1, 3) + x.of(3, 3), 384);
        Due.is("what they knew stays", x.of(2, 3), 129);
        Due.is("heard by none anew", x.say(2, 7), 0);
        Due.is("1 hears for 50, too", x.say(2, 0), 3 + 53 + 3);
        Due.is("nobody else there", x.say(4, 7), 0);
        x.come(4, 3);
        Due.is("nobody may speak out", x.say(4, 7), -10003);
        for (int wrong : new int[] {-1, 5, MIN, MAX}) {
            Due.is("person " + wrong, x.say(wrong, 7), -10001);
        }
        for (int wrong : new int[] {-1, 8, 32, MIN, MAX}) {
            Due.is("thing " + wrong, x.say(2, wrong), -10001);
        }
        Due.is("comings are not counted", x.told(1), 1);
    }
}
