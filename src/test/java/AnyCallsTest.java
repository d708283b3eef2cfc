import java.lang.reflect.InvocationTargetException;
import java.lang.reflect.Method;
import java.lang.reflect.Modifier;

/** All of an object's 512 calls answer, and no call throws, whatever it is given. */
final class AnyCallsTest {
    private static final int CALLS = 512;
    private static final int[] GIVEN = {0, -1, 1, 2, 5, 60, Due.MIN, Due.MAX, 3, 4, 6, 8, 31, 100, 256};

    public static void main(String[] args) throws IllegalAccessException {
        allCalls();
        manyHouses();
        manyTimesFull();
        for (Method call : MiddleSpeaks.class.getDeclaredMethods()) {
            if (Modifier.isPublic(call.getModifiers())) {
                neverThrows(call);
            }
        }
        Due.end();
    }

    private static void allCalls() {
        MiddleSpeaks x = new MiddleSpeaks();
        Due.is("the first call", x.person(1, 1, 0), 0);
        Due.is("the second call", x.room(1, 5, 9), 0);
        for (int call = 3; call < CALLS; call++) {
            Due.is("call " + call, x.come(0, call % 2), 1);
        }
        Due.is("the last call", x.told(1), CALLS - 3);
    }

    /** Faults take no place among the six houses, however many there are. */
    private static void manyHouses() {
        MiddleSpeaks x = new MiddleSpeaks();
        for (int i = 0; i < 200; i++) {
            x.feed('b');
            Due.is("a fault", x.house(), -11);
        }
        Due.is("none", x.count(1), 0);
        Due.house(x, "same 1", 0);
        Due.is("one", x.told(0), 1);
    }

    private static void manyTimesFull() {
        MiddleSpeaks x = new MiddleSpeaks();
        for (int i = 0; i < 400; i++) {
            Due.is("book", x.book(i % 5), i < 12 ? i + 1 : -4);
        }
        for (int i = 0; i < 100; i++) {
            Due.is("person", x.person(i, i, i % 4), i < 5 ? i : -4);
        }
        Due.is("twelve", x.count(3), 12);
        Due.is("five", x.count(0), 5);
    }

    private static MiddleSpeaks scene(int which) {
        MiddleSpeaks x = new MiddleSpeaks();
        for (int i = 0; i < which * 2 + 1 && which > 0; i++) {
            x.person(i * 20, 90 - i, i % 4);
            x.learn(i, 255 >> i);
            x.tape(i, i, 12 * i);
        }
        if (which > 0) {
            x.room(0, 4, 0);
            x.room(1, 5, 9);
            x.room(2, 6, 3);
            Due.feed(x, "price 99 !(p<2&r=3)|t>1;bar n>4;worth 7 a<9;same 5");
            x.house();
            x.spoken(1, 0);
            x.book(7);
            x.image();
        }
        return x;
    }

    private static void neverThrows(Method call) throws IllegalAccessException {
        int takes = call.getParameterCount();
        for (int which = 0; which < 3; which++) {
            MiddleSpeaks x = scene(which);
            int[] at = new int[takes];
            int left = 300;
            for (boolean isMore = true; isMore; isMore = next(at)) {
                if (left-- == 0) {
                    x = scene(which);
                    left = 300;
                }
                Object[] given = new Object[takes];
                for (int i = 0; i < takes; i++) {
                    given[i] = call.getParameterTypes()[i] == long.class ? (Object) (long) GIVEN[at[i]] : (Object) GIVEN[at[i]];
                }
                try {
                    call.invoke(x, given);
                } catch (InvocationTargetException e) {
                    Due.is(call.getName() + java.util.Arrays.toString(given) + " throws " + e.getCause(), 1, 0);
                }
            }
        }
        Due.is(call.getName() + " was called", 1, 1);
    }

    /** The next choice of what is given; of more than three, just some. */
    private static boolean next(int[] at) {
        int most = at.length > 3 ? 8 : GIVEN.length;
        for (int i = 0; i < at.length; i++) {
            at[i]++;
            if (at[i] < most) {
                return true;
            }
            at[i] = 0;
        }
        return false;
    }
}
