import java.util.Random;

/** Long runs of calls by a fixed row of numbers, each answer held against the model's. */
final class ModelTest {
    private static final int RUNS = Integer.getInteger("runs", 150);
    private static final int CALLS = 512;

    private final Random random;
    private final int run;
    private final MiddleSpeaks x = new MiddleSpeaks();
    private final Model m = new Model();
    private final StringBuilder story = new StringBuilder();
    private int calls = 0;

    private ModelTest(int run, long seed) {
        this.run = run;
        this.random = new Random(seed);
    }

    public static void main(String[] args) {
        long from = Long.getLong("from", 1);
        for (int run = 0; run < RUNS && Due.wrongOnes() == 0; run++) {
            new ModelTest(run, from * 7919 + run).go();
        }
        Due.end();
    }

    private void go() {
        boolean few = random.nextInt(3) == 0;
        int people = few ? random.nextInt(4) : 3 + random.nextInt(3);
        for (int i = 0; i < people; i++) person();
        for (int i = 0; i < 3; i++) room();
        if (random.nextBoolean()) text();
        // many of the dear calls are left out, as the model is slow
        for (int i = 0; calls < CALLS && i < 400; i++) {
            int before = Due.wrongOnes();
            one(random.nextInt(48));
            if (Due.wrongOnes() > before) {
                System.out.println("run " + run + ":\n" + story);
                return;
            }
        }
    }

    private void due(String call, long got, long want) {
        calls++;
        story.append(call).append(" -> ").append(want).append('\n');
        Due.is("run " + run + ", call " + calls + ": " + call, got, want);
    }

    /** Mostly one of 0 .. most, now and then one beside that. */
    private int some(int most) {
        int luck = random.nextInt(40);
        if (luck == 0) return -1;
        if (luck == 1) return most + 1;
        if (luck == 2) return new int[] {Integer.MIN_VALUE, Integer.MAX_VALUE, 32, 64, -2, 31, 127, 1 << 20}[random.nextInt(8)];
        return random.nextInt(most + 1);
    }

    private int who() { return some(Math.max(0, m.w.people.size() - 1)); }

    private void person() {
        int a = random.nextInt(3) == 0 ? some(6) * 5 : some(99), h = random.nextInt(3) == 0 ? 20 : some(99), p = some(3);
        due("person(" + a + ", " + h + ", " + p + ")", x.person(a, h, p), m.person(a, h, p));
    }

    private void room() {
        int a = some(2), k = some(6), v = random.nextInt(3) == 0 ? some(9) : some(3);
        due("room(" + a + ", " + k + ", " + v + ")", x.room(a, k, v), m.room(a, k, v));
    }

    private String number(int most) {
        int n = random.nextInt(most + 1);
        return (n < 10 && random.nextInt(5) == 0 ? "0" : "") + n;
    }

    private String condition(int depth) {
        int luck = random.nextInt(10);
        if (luck == 0 && depth < 5) return "!" + factor(depth + 1);
        if (luck < 3) return condition(depth) + "|" + factor(depth);
        if (luck < 5) return condition(depth) + "&" + factor(depth);
        return factor(depth);
    }

    private String factor(int depth) {
        int luck = random.nextInt(8);
        if (luck == 0 && depth < 5) return "!" + factor(depth + 1);
        if (luck == 1 && depth < 5) return "(" + condition(depth + 1) + ")";
        char letter = "prankt".charAt(random.nextInt(6));
        return "" + letter + "<=>".charAt(random.nextInt(3)) + number(letter == 'a' ? 9 : letter == 't' ? 7 : 5);
    }

    private String clause() {
        switch (random.nextInt(7)) {
            case 0: case 1: return "price " + number(random.nextInt(3) == 0 ? 99 : 9) + " " + condition(0);
            case 2: case 3: return "bar " + condition(0) + "&" + factor(0) + (random.nextBoolean() ? "" : "&" + factor(0));
            case 4: case 5: return "worth " + number(99) + " " + condition(0);
            default: return "same " + number(random.nextInt(3) == 0 ? 50 : 8);
        }
    }

    private void text() {
        StringBuilder b = new StringBuilder(clause());
        int n = random.nextInt(8) == 0 ? 11 : random.nextInt(6);
        for (int i = 0; i < n; i++) {
            String next = random.nextInt(8) == 0 || n == 11 ? "same " + random.nextInt(5) : clause();
            if (b.length() + next.length() < 100) b.append(';').append(next);
        }
        if (random.nextInt(3) == 0) {
            int at = random.nextInt(b.length());
            char sign = "pbws 019;!()|&<=>rankt~".charAt(random.nextInt(23));
            switch (random.nextInt(4)) {
                case 0: b.setCharAt(at, sign); break;
                case 1: b.insert(at, sign); break;
                case 2: b.deleteCharAt(at); break;
                default: b.setLength(at);
            }
        }
        for (int i = 0; i < b.length(); i++) {
            int sign = b.charAt(i);
            due("feed(" + sign + ")", x.feed(sign), m.feed(sign));
        }
        due("house() of " + m.text, x.house(), m.house());
    }

    private void one(int which) {
        int a, b, c, d, e;
        long v;
        switch (which) {
            case 0: if (random.nextInt(3) == 0) person(); break;
            case 1: case 2: a = who(); b = some(4);
                due("of(" + a + ", " + b + ")", x.of(a, b), m.of(a, b)); break;
            case 3: case 4: case 5: a = who(); b = some(255);
                if (random.nextBoolean()) b &= 7;
                due("learn(" + a + ", " + b + ")", x.learn(a, b), m.learn(a, b)); break;
            case 6: room(); break;
            case 7: case 8: case 9: a = some(2); b = some(3);
                due("inside(" + a + ", " + b + ")", x.inside(a, b), m.inside(a, b)); break;
            case 10: if (random.nextInt(5) == 0) text(); break;
            case 11: if (random.nextInt(8) == 0) { a = some(127); due("feed(" + a + ")", x.feed(a), m.feed(a)); } break;
            case 12: if (random.nextInt(8) == 0) due("house() of " + m.text, x.house(), m.house()); break;
            case 13: a = some(2); due("told(" + a + ")", x.told(a), m.told(a)); break;
            case 14: case 15: a = who(); b = some(3); c = some(1);
                due("coming(" + a + ", " + b + ", " + c + ")", x.coming(a, b, c), m.coming(a, b, c)); break;
            case 16: case 17: case 18: case 19: a = who(); b = some(3);
                due("come(" + a + ", " + b + ")", x.come(a, b), m.come(a, b)); break;
            case 20: case 21: case 22: case 23: a = who(); b = random.nextBoolean() ? some(2) : some(7);
                due("say(" + a + ", " + b + ")", x.say(a, b), m.say(a, b)); break;
            case 24: case 25: case 26: case 27: case 28: case 29:
                if (m.w.people.size() < 4 || random.nextInt(m.w.people.size() == 4 ? 8 : 40) == 0) dear(); break;
            case 30: a = some(2); b = some(7);
                due("votes(" + a + ", " + b + ")", x.votes(a, b), m.votes(a, b)); break;
            case 31: case 32: a = random.nextInt(30) == 0 ? -1 : some((1 << m.w.people.size()) - 1); b = some(4);
                due("spoken(" + a + ", " + b + ")", x.spoken(a, b), m.spoken(a, b)); break;
            case 33: due("fits()", x.fits(), m.fits()); break;
            case 34: a = who(); b = some(1); c = some(1);
                due("lot(" + a + ", " + b + ", " + c + ")", x.lot(a, b, c), m.lot(a, b, c)); break;
            case 35: case 36: a = random.nextInt(20) == 0 ? -1 : some(4) * 10 + some(8);
                due("book(" + a + ")", x.book(a), m.book(a)); break;
            case 37: due("readBook()", x.readBook(), m.readBook()); break;
            case 38: a = some(5); b = some(5);
                due("judge(" + a + ", " + b + ")", x.judge(a, b), m.judge(a, b)); break;
            case 39: if (random.nextInt(4) == 0) due("image()", x.image(), m.image()); break;
            case 40: if (random.nextInt(8) == 0) due("undo()", x.undo(), m.undo()); break;
            case 41: a = some(2); b = some(2); c = random.nextBoolean() ? random.nextInt() : some(20);
                due("act(" + a + ", " + b + ", " + c + ")", x.act(a, b, c), m.act(a, b, c));
                for (int i = 0; i < 14; i += 1 + random.nextInt(6)) due("trace(" + i + ")", x.trace(i), m.trace(i));
                break;
            case 42: a = some(2); b = some(6);
                due("taken(" + a + ", " + b + ")", x.taken(a, b), m.taken(a, b)); break;
            case 43: a = some(5); due("count(" + a + ")", x.count(a), m.count(a)); break;
            case 44: a = some(5); b = random.nextInt(3) == 0 ? 2 : random.nextInt(9) == 0 ? -1 : some(4); c = random.nextBoolean() ? some(6) : some(60);
                due("tape(" + a + ", " + b + ", " + c + ")", x.tape(a, b, c), m.tape(a, b, c)); break;
            case 45: a = some(5); b = some(5);
                v = random.nextBoolean() ? random.nextLong() : m.w.people.isEmpty() ? 1 : m.w.people.get(random.nextInt(m.w.people.size())).knows;
                due("item(" + a + ", " + b + ", " + v + ")", x.item(a, b, v), m.item(a, b, v)); break;
            case 46: a = some(5); b = some(5);
                due("read(" + a + ", " + b + ")", x.read(a, b), m.read(a, b)); break;
            default: a = some(5); b = some(4); c = some(5); d = some(4); e = some(3);
                due("shift(" + a + ", " + b + ", " + c + ", " + d + ", " + e + ")", x.shift(a, b, c, d, e), m.shift(a, b, c, d, e));
        }
    }

    private void dear() {
        int a, b, c;
        switch (random.nextInt(7)) {
            case 0: a = who(); b = some(2); c = some(1);
                due("soonest(" + a + ", " + b + ", " + c + ")", x.soonest(a, b, c), m.soonest(a, b, c)); break;
            case 1: a = who(); b = some(2); c = some(m.w.people.size() > 3 ? 3 : 4);
                due("cheapest(" + a + ", " + b + ", " + c + ")", x.cheapest(a, b, c), m.cheapest(a, b, c)); break;
            case 2: a = some(2);
                due("never(" + a + ")", x.never(a), m.never(a)); break;
            case 3: a = random.nextBoolean() ? some(7) : random.nextInt(3);
                due("heard(" + a + ")", x.heard(a), m.heard(a)); break;
            case 4: a = who(); b = who(); c = random.nextBoolean() ? some(7) : random.nextInt(3);
                due("secret(" + a + ", " + b + ", " + c + ")", x.secret(a, b, c), m.secret(a, b, c)); break;
            case 5: a = some(2); b = some((1 << m.w.people.size()) - 1); c = some(3);
                due("game(" + a + ", " + b + ", " + c + ")", x.game(a, b, c), m.game(a, b, c)); break;
            default: a = who(); b = some(2); c = some(1);
                due("lot(" + a + ", " + b + ", " + c + ")", x.lot(a, b, c), m.lot(a, b, c));
        }
    }
}
