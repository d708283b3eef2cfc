import java.math.BigInteger;
import java.util.ArrayList;
import java.util.Arrays;
import java.util.Collections;
import java.util.Comparator;
import java.util.HashMap;
import java.util.HashSet;
import java.util.List;
import java.util.Map;
import java.util.Set;

/** The document told a second time, in the most roundabout and least clever way, to hold the class against. */
final class Model {
    static final long NO = Long.MIN_VALUE;

    static final class Person implements Cloneable {
        int number, age, height, place, knows;
        Person copy() {
            Person p = new Person();
            p.number = number; p.age = age; p.height = height; p.place = place; p.knows = knows;
            return p;
        }
    }

    static final class World {
        List<Person> people = new ArrayList<>();
        int[] kind = new int[3];
        int[] v = new int[3];
        int comings, cost;
        List<int[]> rows = new ArrayList<>();
        List<Integer> book = new ArrayList<>();
        String house;

        World copy() {
            World w = new World();
            for (Person p : people) w.people.add(p.copy());
            w.kind = kind.clone(); w.v = v.clone(); w.comings = comings; w.cost = cost;
            for (int[] r : rows) w.rows.add(r.clone());
            w.book.addAll(book); w.house = house;
            return w;
        }

        String places() {
            StringBuilder b = new StringBuilder();
            for (Person p : people) b.append(p.place);
            return b.toString();
        }

        String all() {
            StringBuilder b = new StringBuilder();
            for (Person p : people) b.append(p.place).append(':').append(p.knows).append(' ');
            return b.toString();
        }

        List<Person> in(int place) {
            List<Person> there = new ArrayList<>();
            for (Person p : people) if (p.place == place) there.add(p);
            return there;
        }

        Set<Integer> speakers(int room) {
            Set<Integer> speak = new HashSet<>();
            if (room == 3) return speak;
            int k = kind[room];
            boolean byHeight = k == 3 || k == 6;
            List<Person> line = in(room);
            line.sort(Comparator.<Person>comparingInt(p -> byHeight ? p.height : p.age).thenComparingInt(p -> p.number));
            int m = line.size();
            List<Integer> places = new ArrayList<>();
            if (k == 0 || k == 3) { if (m % 2 == 1) places.add((m - 1) / 2); }
            if (k == 1 || k == 4) { if (m > 0) places.add((m - 1) / 2); }
            if (k == 4 && m > 0 && m % 2 == 0) places.add((m - 1) / 2 + 1);
            if (k == 2) places.add(m - 1 - v[room]);
            if (k == 5 && m > 0) places.add((comings + v[room]) % m);
            if (k == 6) { if (m > v[room]) places.add(0); else if (m % 2 == 1) places.add((m - 1) / 2); }
            int same = same();
            for (int at : places) {
                if (at < 0 || at >= m) continue;
                boolean near = false;
                for (Person o : line) {
                    if (o == line.get(at)) continue;
                    int apart = byHeight ? o.height - line.get(at).height : o.age - line.get(at).age;
                    if (same > 0 && Math.abs(apart) <= same) near = true;
                }
                if (!near) speak.add(line.get(at).number);
            }
            return speak;
        }

        int same() {
            int same = 0;
            for (String c : clauses()) if (c.startsWith("same ")) same = Integer.parseInt(c.substring(5));
            return same;
        }

        List<String> clauses() {
            return house == null ? Collections.<String>emptyList() : Arrays.asList(house.split(";"));
        }

        int sum(String word, Person p, int place, int there, int thing) {
            int sum = 0;
            for (String c : clauses()) {
                if (!c.startsWith(word + " ")) continue;
                String[] part = c.split(" ");
                if (holds(part[part.length - 1], p, place, there, thing)) {
                    sum += word.equals("bar") ? 1 : Integer.parseInt(part[1]);
                }
            }
            return sum;
        }

        /** Splits at the outermost | first, then &, by looking for them outside all brackets. */
        boolean holds(String e, Person p, int place, int there, int thing) {
            for (char sign : new char[] {'|', '&'}) {
                int depth = 0;
                for (int i = 0; i < e.length(); i++) {
                    char c = e.charAt(i);
                    if (c == '(') depth++;
                    if (c == ')') depth--;
                    if (c == sign && depth == 0) {
                        boolean left = holds(e.substring(0, i), p, place, there, thing);
                        boolean right = holds(e.substring(i + 1), p, place, there, thing);
                        return sign == '|' ? left | right : left & right;
                    }
                }
            }
            if (e.charAt(0) == '!') return !holds(e.substring(1), p, place, there, thing);
            if (e.charAt(0) == '(') return holds(e.substring(1, e.length() - 1), p, place, there, thing);
            int n = Integer.parseInt(e.substring(2));
            int fact;
            switch (e.charAt(0)) {
                case 'p': fact = p.number; break;
                case 'r': fact = place; break;
                case 'a': fact = p.age / 10; break;
                case 'n': fact = there; break;
                case 'k': fact = place == 3 ? 9 : kind[place]; break;
                default: fact = thing;
            }
            char sign = e.charAt(1);
            return sign == '<' ? fact < n : sign == '=' ? fact == n : fact > n;
        }

        int price(int who, int place) {
            return 1 + sum("price", people.get(who), place, in(place).size() + 1, 99);
        }

        boolean barred(int who, int place) {
            return sum("bar", people.get(who), place, in(place).size() + 1, 99) > 0;
        }

        World come(int who, int place) {
            World w = copy();
            w.cost = Math.min(9999, cost + price(who, place));
            w.people.get(who).place = place;
            w.comings++;
            return w;
        }

        List<int[]> comings() {
            List<int[]> all = new ArrayList<>();
            for (Person p : people) {
                for (int place = 0; place < 4; place++) {
                    if (p.place != place && !barred(p.number, place)) all.add(new int[] {p.number, place});
                }
            }
            return all;
        }

        /** Whoever may speak and knows it says it. */
        void sayAtOnce(int thing) {
            List<List<Person>> telling = new ArrayList<>();
            for (int room = 0; room < 3; room++) {
                for (int who : speakers(room)) {
                    if ((people.get(who).knows >> thing & 1) == 1) telling.add(in(room));
                }
            }
            for (List<Person> hearing : telling) for (Person p : hearing) p.knows |= 1 << thing;
        }
    }

    World w = new World();
    World image;
    String text = "";
    List<String> houses = new ArrayList<>();
    int[] sort = {-1, -1, -1, -1, -1, -1};
    long[][] tapes = new long[6][];
    List<Integer> trace = new ArrayList<>();

    boolean noPerson(int p) { return p < 0 || p >= w.people.size(); }
    static boolean noRoom(int r) { return r < 0 || r > 2; }
    static boolean noThing(int t) { return t < 0 || t > 7; }
    static boolean noTape(int t) { return t < 0 || t > 5; }
    static int bits(Iterable<Integer> some) { int b = 0; for (int i : some) b |= 1 << i; return b; }

    int person(int age, int height, int place) {
        if (age < 0 || age > 99 || height < 0 || height > 99) return -2;
        if (place < 0 || place > 3) return -1;
        if (w.people.size() == 5) return -4;
        Person p = new Person();
        p.number = w.people.size(); p.age = age; p.height = height; p.place = place;
        w.people.add(p);
        return p.number;
    }

    int of(int person, int what) {
        if (noPerson(person) || what < 0 || what > 4) return -1;
        Person p = w.people.get(person);
        return new int[] {p.age, p.height, p.place, p.knows, w.speakers(p.place).contains(person) ? 1 : 0}[what];
    }

    int learn(int person, int things) {
        if (noPerson(person)) return -1;
        if (things < 0 || things > 255) return -2;
        int was = w.people.get(person).knows;
        w.people.get(person).knows = things;
        return was;
    }

    int room(int room, int kind, int v) {
        if (noRoom(room) || kind < 0 || kind > 6) return -1;
        if (v < 0 || v > 9) return -2;
        int was = w.kind[room];
        w.kind[room] = kind;
        w.v[room] = v;
        return was;
    }

    int inside(int room, int what) {
        if (noRoom(room) || what < 0 || what > 3) return -1;
        if (what == 0) return w.kind[room];
        if (what == 1) return w.v[room];
        if (what == 3) return bits(w.speakers(room));
        int b = 0;
        for (Person p : w.in(room)) b |= 1 << p.number;
        return b;
    }

    int feed(int sign) {
        if (sign < 0 || sign > 127) return -2;
        if (text.length() == 100) return -4;
        text += (char) sign;
        return text.length();
    }

    int house() {
        if (houses.size() == 6) return -4;
        int fault = fault(text);
        String read = text;
        text = "";
        if (fault >= 0) return -10 - fault;
        houses.add(read);
        w.house = read;
        return houses.size() - 1;
    }

    /** One byte behind the other through a machine of states; what is open stands in a text of ( and !. */
    static int fault(String text) {
        String[] words = {"price ", "bar ", "worth ", "same "};
        String word = "";
        String state = "word";
        String open = "";
        int clauses = 0;
        for (int i = 0; i <= text.length(); i++) {
            boolean atEnd = i == text.length();
            char c = atEnd ? 0 : text.charAt(i);
            if (state.equals("word")) {
                boolean begins = false;
                for (String some : words) begins |= !atEnd && some.startsWith(word + c);
                if (!begins) return i;
                word += c;
                if (c == ' ') {
                    state = word.equals("bar ") ? "factor" : "n1";
                    clauses++;
                    open = "";
                }
            } else if (state.equals("n1")) {
                if (atEnd || c < '0' || c > '9') return i;
                state = "n2";
            } else if (state.equals("n2") && c >= '0' && c <= '9') {
                state = "n3";
            } else if (state.equals("n2") || state.equals("n3")) {
                if (word.equals("same ")) {
                    if (atEnd) return -1;
                    if (c != ';' || clauses == 10) return i;
                    word = "";
                    state = "word";
                } else {
                    if (atEnd || c != ' ') return i;
                    state = "factor";
                }
            } else if (state.equals("factor")) {
                if (!atEnd && (c == '(' || c == '!')) {
                    if (open.length() == 4) return i;
                    open += c;
                } else if (!atEnd && "prankt".indexOf(c) >= 0) {
                    state = "sign";
                } else return i;
            } else if (state.equals("sign")) {
                if (atEnd || "<=>".indexOf(c) < 0) return i;
                state = "t1";
            } else if (state.equals("t1")) {
                if (atEnd || c < '0' || c > '9') return i;
                state = "t2";
            } else if (state.equals("t2") && c >= '0' && c <= '9') {
                state = "behind";
                while (open.endsWith("!")) open = open.substring(0, open.length() - 1);
            } else {
                while (open.endsWith("!")) open = open.substring(0, open.length() - 1);
                if (atEnd) return open.isEmpty() ? -1 : i;
                if (c == '|' || c == '&') state = "factor";
                else if (c == ')' && open.endsWith("(")) {
                    open = open.substring(0, open.length() - 1);
                    state = "behind";
                } else if (c == ';' && open.isEmpty() && clauses < 10) {
                    word = "";
                    state = "word";
                } else return i;
            }
        }
        throw new IllegalStateException(text);
    }

    int told(int what) {
        return what == 0 ? w.same() : what == 1 ? w.comings : what == 2 ? w.cost : -1;
    }

    int coming(int person, int place, int what) {
        if (noPerson(person) || place < 0 || place > 3 || what < 0 || what > 1) return -1;
        if (w.people.get(person).place == place) return -2;
        return what == 0 ? w.price(person, place) : w.barred(person, place) ? 1 : 0;
    }

    int come(int person, int place) {
        if (noPerson(person) || place < 0 || place > 3) return -1;
        if (w.people.get(person).place == place) return -2;
        if (w.barred(person, place)) return -3;
        int price = w.price(person, place);
        w = w.come(person, place);
        return price;
    }

    int say(int person, int thing) {
        if (noPerson(person) || noThing(thing)) return -10001;
        Person p = w.people.get(person);
        if (!w.speakers(p.place).contains(person) || (p.knows >> thing & 1) == 0) return -10003;
        int worth = 0;
        for (Person o : w.in(p.place)) {
            if ((o.knows >> thing & 1) == 0) worth += w.sum("worth", o, p.place, w.in(p.place).size(), thing);
            o.knows |= 1 << thing;
        }
        return worth;
    }

    /** All that can be behind just n comings, each way once. */
    static List<World> behind(World from, int n) {
        List<World> layer = new ArrayList<>();
        layer.add(from);
        for (int i = 0; i < n; i++) layer = oneOn(layer);
        return layer;
    }

    static List<World> oneOn(List<World> layer) {
        Map<String, World> next = new HashMap<>();
        for (World x : layer) {
            for (int[] c : x.comings()) {
                World y = x.come(c[0], c[1]);
                y.cost = 0;
                next.put(y.all(), y);
            }
        }
        return new ArrayList<>(next.values());
    }

    static int soonestFrom(World from, int person, int room, int most) {
        List<World> layer = behind(from, 0);
        for (int n = 0; n <= most; n++) {
            for (World x : layer) if (x.speakers(room).contains(person)) return n;
            if (n < most) layer = oneOn(layer);
        }
        return -5;
    }

    int soonest(int person, int room, int what) {
        if (noPerson(person) || noRoom(room) || what < 0 || what > 1) return -1;
        int n = soonestFrom(w, person, room, 12);
        if (what == 0 || n == -5) return n;
        if (n == 0) return -5;
        for (int[] c : w.comings()) {
            if (soonestFrom(w.come(c[0], c[1]), person, room, n - 1) == n - 1) return 4 * c[0] + c[1];
        }
        throw new IllegalStateException();
    }

    static int cheapestFrom(World from, int person, int room, int n) {
        int best = from.speakers(room).contains(person) ? 0 : -5;
        if (n == 0) return best;
        for (int[] c : from.comings()) {
            int rest = cheapestFrom(from.come(c[0], c[1]), person, room, n - 1);
            if (rest == -5) continue;
            int cost = rest + from.price(c[0], c[1]);
            if (best == -5 || cost < best) best = cost;
        }
        return best;
    }

    int cheapest(int person, int room, int n) {
        if (noPerson(person) || noRoom(room)) return -1;
        if (n < 0 || n > 4) return -2;
        return cheapestFrom(w, person, room, n);
    }

    int never(int room) {
        if (noRoom(room)) return -1;
        int never = (1 << w.people.size()) - 1;
        List<World> layer = behind(w, 0);
        for (int n = 0; n <= 12; n++) {
            for (World x : layer) never &= ~bits(x.speakers(room));
            if (n < 12) layer = oneOn(layer);
        }
        return never;
    }

    interface Wanted { boolean in(World x); }

    static int fewestSaying(World from, int thing, Wanted wanted) {
        List<World> layer = new ArrayList<>();
        layer.add(from.copy());
        for (int n = 0; n <= 6; n++) {
            if (n > 0) layer = oneOn(layer);
            for (World x : layer) x.sayAtOnce(thing);
            for (World x : layer) if (wanted.in(x)) return n;
        }
        return -5;
    }

    int heard(int thing) {
        if (noThing(thing)) return -1;
        return fewestSaying(w, thing, x -> {
            for (Person p : x.people) if ((p.knows >> thing & 1) == 0) return false;
            return true;
        });
    }

    int secret(int one, int other, int thing) {
        if (noPerson(one) || noPerson(other) || noThing(thing)) return -1;
        if (one == other) return -2;
        return fewestSaying(w, thing, x -> (x.people.get(one).knows >> thing & 1) == 1
            && (x.people.get(other).knows >> thing & 1) == 0);
    }

    static boolean canWin(World x, int room, int party, int left, boolean first) {
        if (left == 0) {
            boolean ours = false, theirs = false;
            for (int who : x.speakers(room)) {
                if ((party >> who & 1) == 1) ours = true; else theirs = true;
            }
            return ours && !theirs;
        }
        boolean some = canWin(x, room, party, left - 1, !first);
        boolean every = some;
        for (int[] c : x.comings()) {
            boolean wins = canWin(x.come(c[0], c[1]), room, party, left - 1, !first);
            some |= wins;
            every &= wins;
        }
        return first ? some : every;
    }

    int game(int room, int party, int n) {
        if (noRoom(room)) return -1;
        if (party < 0 || party >= 1 << w.people.size() || n < 1 || n > 3) return -2;
        return canWin(w, room, party, n, true) ? 1 : 0;
    }

    int votes(int room, int thing) {
        if (noRoom(room) || noThing(thing)) return -1;
        int know = 0, not = 0;
        for (Person p : w.in(room)) if ((p.knows >> thing & 1) == 1) know++; else not++;
        return know > not ? 1 : 0;
    }

    int spoken(int set, int who) {
        if (set == -1) { w.rows.clear(); return 0; }
        if (set < 0 || set >= 1 << w.people.size() || Integer.bitCount(set) % 2 == 0) return -2;
        if (who < 0 || who > 4 || (set & 1 << who) == 0) return -1;
        if (w.rows.size() == 12) return -4;
        w.rows.add(new int[] {set, who});
        return w.rows.size();
    }

    int fits() {
        if (w.people.isEmpty()) return -5;
        return fitsFrom(new ArrayList<>());
    }

    private int fitsFrom(List<Integer> order) {
        if (order.size() == w.people.size()) {
            for (int[] row : w.rows) {
                List<Integer> of = new ArrayList<>();
                for (int who : order) if ((row[0] & 1 << who) != 0) of.add(who);
                if (of.get(of.size() / 2) != row[1]) return 0;
            }
            return 1;
        }
        int n = 0;
        for (int who = 0; who < w.people.size(); who++) {
            if (order.contains(who)) continue;
            order.add(who);
            n += fitsFrom(order);
            order.remove(order.size() - 1);
        }
        return n;
    }

    static BigInteger[] plus(BigInteger[] a, BigInteger[] b) {
        return lowest(a[0].multiply(b[1]).add(b[0].multiply(a[1])), a[1].multiply(b[1]));
    }

    static BigInteger[] lowest(BigInteger above, BigInteger below) {
        BigInteger d = above.gcd(below);
        return new BigInteger[] {above.divide(d), below.divide(d)};
    }

    static BigInteger[] odds(World x, int person, int n) {
        List<int[]> comings = x.comings();
        if (n == 0) {
            boolean so = x.speakers(x.people.get(person).place).contains(person);
            return new BigInteger[] {so ? BigInteger.ONE : BigInteger.ZERO, BigInteger.ONE};
        }
        if (comings.isEmpty()) return odds(x, person, n - 1);
        BigInteger[] all = {BigInteger.ZERO, BigInteger.ONE};
        for (int[] c : comings) all = plus(all, odds(x.come(c[0], c[1]), person, n - 1));
        return lowest(all[0], all[1].multiply(BigInteger.valueOf(comings.size())));
    }

    long lot(int person, int n, int part) {
        if (noPerson(person) || n < 0 || n > 2 || part < 0 || part > 1) return NO;
        return odds(w, person, n)[part].longValueExact();
    }

    int book(int said) {
        if (said == -1) { w.book.clear(); return 0; }
        if (said < 0 || said > 49 || said % 10 > 7) return -1;
        if (w.book.size() == 12) return -4;
        w.book.add(said);
        return w.book.size();
    }

    int readBook() {
        Model other = new Model();
        other.w = w.copy();
        int n = 0;
        for (int said : w.book) {
            if (other.say(said / 10, said % 10) < 0) return n;
            n++;
        }
        return n;
    }

    int judge(int tape, int i) {
        if (noTape(tape)) return -1;
        if (sort[tape] != -1 && sort[tape] != 2) return -12;
        if (w.people.isEmpty()) return -5;
        if (sort[tape] == -1 || i < 0) return 100;
        for (int n = 0; n < w.people.size(); n++) {
            if ((long) i + n >= tapes[tape].length) return 100 + n;
            if (tapes[tape][i + n] != w.people.get(n).knows) return n;
        }
        return -5;
    }

    int image() { image = w.copy(); return w.people.size(); }

    int undo() {
        if (image == null) return -3;
        w = image.copy();
        return w.people.size();
    }

    /** The kinds as classes that stand under one another. */
    class Room {
        int i, v;
        int hears(int x) { trace.add(10); return x + i; }
        int speaks(int x) { trace.add(11); return hears(x) - v; }
        int tells(int x) { trace.add(12); return speaks(x) * 2; }
    }
    class Lower extends Room {
        @Override int speaks(int x) { trace.add(20); return super.speaks(x) ^ 6; }
    }
    class Elder extends Room {
        @Override int hears(int x) { trace.add(30); return super.hears(x * 3); }
    }
    class Tall extends Room {
        @Override int tells(int x) { trace.add(40); return super.tells(x) + speaks(1); }
    }
    class Both extends Lower {
        @Override int hears(int x) { trace.add(50); return -super.hears(x); }
        @Override int speaks(int x) { trace.add(51); return super.speaks(x + 1); }
    }
    class Turning extends Elder {
        @Override int tells(int x) { trace.add(60); return super.tells(x - i); }
    }
    class Small extends Tall {
        @Override int speaks(int x) { trace.add(70); return super.speaks(x) + super.hears(2); }
        @Override int hears(int x) { trace.add(71); return super.hears(x) ^ v; }
    }

    Room made(int kind) {
        switch (kind) {
            case 0: return new Room();
            case 1: return new Lower();
            case 2: return new Elder();
            case 3: return new Tall();
            case 4: return new Both();
            case 5: return new Turning();
            default: return new Small();
        }
    }

    int act(int room, int act, int x) {
        trace.clear();
        if (noRoom(room) || act < 0 || act > 2) return 0;
        Room r = made(w.kind[room]);
        r.i = room;
        r.v = w.v[room];
        return act == 0 ? r.hears(x) : act == 1 ? r.speaks(x) : r.tells(x);
    }

    int trace(int i) { return i < 0 || i >= trace.size() || i >= 20 ? -1 : trace.get(i); }

    int taken(int room, int k) {
        if (k < 0 || k > 6) return -2;
        if (noRoom(room)) return -11;
        return made(k).getClass().isInstance(made(w.kind[room])) ? w.kind[room] : -12;
    }

    int count(int what) {
        if (what < 0 || what > 5) return -2;
        return new int[] {w.people.size(), houses.size(), w.rows.size(), w.book.size(), text.length(), trace.size()}[what];
    }

    int tape(int tape, int s, int n) {
        if (noTape(tape)) return -1;
        if (s < -1 || s > 4 || s != -1 && n > 60) return -2;
        if (s != -1 && n < 0) return -14;
        sort[tape] = s;
        tapes[tape] = s == -1 ? null : new long[n];
        return 1;
    }

    int item(int tape, int i, long v) {
        if (noTape(tape)) return -1;
        if (tapes[tape] == null) return -11;
        if (i < 0 || i >= tapes[tape].length) return -13;
        long[] as = {(byte) v, (short) v, (int) v, v, v != 0 ? 1 : 0};
        tapes[tape][i] = as[sort[tape]];
        return 1;
    }

    long read(int tape, int i) {
        if (noTape(tape) || tapes[tape] == null || i < 0 || i >= tapes[tape].length) return NO;
        return tapes[tape][i];
    }

    int shift(int tape, int i, int other, int j, int n) {
        if (noTape(tape) || noTape(other)) return -1;
        if (tapes[tape] == null || tapes[other] == null) return -11;
        if (sort[tape] != sort[other]) return -12;
        if (n < 0 || i < 0 || j < 0 || (long) i + n > tapes[tape].length || (long) j + n > tapes[other].length) return -13;
        long[] before = tapes[tape].clone();
        for (int k = 0; k < n; k++) tapes[other][j + k] = before[i + k];
        return n;
    }
}
