import java.util.ArrayDeque;
import java.util.ArrayList;
import java.util.Arrays;
import java.util.HashMap;
import java.util.List;
import java.util.Map;
import java.util.NoSuchElementException;
import java.util.function.IntPredicate;

/**
 * The document a second time, by the slowest and most literal means: every hour tried, every set of favours tried,
 * every path walked. FuzzTest compares the class with it.
 */
final class Model {
    static final int NONE = -1;

    interface Node {
        int worth(Map<String, Integer> values);
    }

    static final class Fault extends RuntimeException {
        private static final long serialVersionUID = 1;
        final int number;
        final int place;

        Fault(int number, int place) {
            this.number = number;
            this.place = place;
        }
    }

    /** A TOKEN: kind w(ord), n(umber), e(nd), ?(none) or the sign itself. */
    record Token(char kind, String text, int place) {
    }

    record Path(int one, int other, int hours) {
    }

    static final class Person implements Cloneable {
        int kind, home, lambs, wood, owes, cold, favours;
        boolean lamp;

        Person copy() {
            try {
                return (Person) clone();
            } catch (CloneNotSupportedException e) {
                throw new IllegalStateException(e);
            }
        }
    }

    static final class Pack {
        int hunger, store, thin;

        Pack(int hunger, int store, int thin) {
            this.hunger = hunger;
            this.store = store;
            this.thin = thin;
        }
    }

    static final class Wild {
        int day;
        List<Person> people = new ArrayList<>();
        List<Pack> packs = new ArrayList<>();
        int paidInAll;
        boolean[] coldToday = new boolean[6];
        boolean[] thinToday = new boolean[4];

        Wild copy() {
            Wild c = new Wild();
            c.day = day;
            people.forEach(p -> c.people.add(p.copy()));
            packs.forEach(p -> c.packs.add(new Pack(p.hunger, p.store, p.thin)));
            return c;
        }
    }

    static final class World {
        List<int[]> places = new ArrayList<>();
        List<Path> paths = new ArrayList<>();
        List<Integer> snow = new ArrayList<>();
        Wild start = new Wild();
        Node right;
        Node rent;
    }

    record Image(Wild wild, ArrayDeque<Wild> acts, List<int[]> tracks) {
    }

    private final List<Byte> tape = new ArrayList<>();
    private World world = new World();
    private Wild now = new Wild();
    private ArrayDeque<Wild> acts = new ArrayDeque<>();
    private List<int[]> tracks = new ArrayList<>();
    private Image image;
    private int faultPlace = NONE;
    private final int[] status = new int[3];

    // ---- reading

    static final class Parser {
        final List<Token> tokens = new ArrayList<>();
        final World world = new World();
        int next = 0;

        Parser(byte[] text) {
            int i = 0;
            while (i < text.length) {
                char c = (char) (text[i] & 255);
                int from = i;
                if (c == ' ' || c == '\n') {
                    i++;
                } else if (c >= 'a' && c <= 'z') {
                    while (i < text.length && text[i] >= 'a' && text[i] <= 'z') i++;
                    tokens.add(new Token('w', new String(text, from, i - from), from));
                } else if (c >= '0' && c <= '9') {
                    while (i < text.length && text[i] >= '0' && text[i] <= '9') i++;
                    tokens.add(new Token('n', new String(text, from, i - from), from));
                } else {
                    boolean sign = ";()+-*/<=".indexOf(c) >= 0;
                    tokens.add(new Token(sign ? c : '?', String.valueOf(c), from));
                    i++;
                }
            }
            tokens.add(new Token('e', "", text.length));
        }

        Token look() {
            return tokens.get(next);
        }

        Token pull() {
            Token t = look();
            if (t.kind != 'e') next++;
            return t;
        }

        Fault fault(int number, Token t) {
            return new Fault(number, t.place);
        }

        int number(IntPredicate fits, int fault) {
            Token t = pull();
            if (t.kind != 'n') throw fault(1, t);
            if (t.text.length() > 4) throw fault(2, t);
            int n = Integer.parseInt(t.text);
            if (!fits.test(n)) throw fault(fault, t);
            return n;
        }

        int range(int least, int most) {
            return number(n -> n >= least && n <= most, 2);
        }

        World winter() {
            while (look().kind != 'e') {
                line();
                Token t = pull();
                if (t.kind != ';') throw fault(1, t);
            }
            return world;
        }

        void most(Token t, int have, int most) {
            if (have >= most) throw fault(2, t);
        }

        void line() {
            Token t = pull();
            if (t.kind != 'w') throw fault(1, t);
            List<String> kinds = List.of("house", "field", "edge", "wood");
            List<String> folk = List.of("squire", "doctor", "widow", "child");
            if (t.text.equals("pack")) {
                most(t, world.start.packs.size(), 4);
                int hunger = range(0, 20);
                world.start.packs.add(new Pack(hunger, range(0, 99), 0));
            } else if (kinds.contains(t.text)) {
                most(t, world.places.size(), 9);
                int pack = number(n -> n < world.start.packs.size(), 3);
                world.places.add(new int[] {kinds.indexOf(t.text), pack});
            } else if (t.text.equals("path")) {
                most(t, world.paths.size(), 14);
                path();
            } else if (folk.contains(t.text)) {
                most(t, world.start.people.size(), 6);
                person(folk.indexOf(t.text));
            } else if (t.text.equals("snow")) {
                if (!world.snow.isEmpty()) throw fault(5, t);
                world.snow.add(range(0, 9));
                while (look().kind == 'n') {
                    most(look(), world.snow.size(), 10);
                    world.snow.add(range(0, 9));
                }
            } else if (t.text.equals("right")) {
                if (world.right != null) throw fault(5, t);
                world.right = expr(List.of("kind", "place", "hour", "snow", "lamp", "owes", "day"), 0);
            } else if (t.text.equals("rent")) {
                if (world.rent != null) throw fault(5, t);
                world.rent = expr(List.of("lambs", "kind", "hunger", "store", "snow", "day", "owes"), 0);
            } else {
                throw fault(1, t);
            }
        }

        void path() {
            int one = number(n -> n < world.places.size(), 3);
            Token second = look();
            int other = number(n -> n < world.places.size(), 3);
            boolean twice = world.paths.stream().anyMatch(p -> p.one == one && p.other == other || p.one == other && p.other == one);
            if (one == other || twice) throw fault(4, second);
            world.paths.add(new Path(one, other, range(1, 9)));
        }

        void person(int kind) {
            Person p = new Person();
            p.kind = kind;
            Token at = look();
            p.home = number(n -> n < world.places.size(), 3);
            if (world.places.get(p.home)[0] != 0) throw fault(6, at);
            p.lambs = range(0, 99);
            p.wood = range(0, 99);
            world.start.people.add(p);
        }

        boolean isWord(String word) {
            return look().kind == 'w' && look().text.equals(word);
        }

        Node expr(List<String> values, int within) {
            if (within == 6 && "nw(".indexOf(look().kind) >= 0) throw fault(2, look());
            Node left = and(values, within);
            while (isWord("or")) {
                pull();
                Node one = left;
                Node other = and(values, within);
                left = v -> (one.worth(v) != 0) | (other.worth(v) != 0) ? 1 : 0;
            }
            return left;
        }

        Node and(List<String> values, int within) {
            Node left = not(values, within, 0);
            while (isWord("and")) {
                pull();
                Node one = left;
                Node other = not(values, within, 0);
                left = v -> (one.worth(v) != 0) & (other.worth(v) != 0) ? 1 : 0;
            }
            return left;
        }

        Node not(List<String> values, int within, int side) {
            if (isWord("not")) {
                if (side == 6) throw fault(2, look());
                pull();
                Node n = not(values, within, side + 1);
                return v -> n.worth(v) == 0 ? 1 : 0;
            }
            Node one = sum(values, within);
            char sign = look().kind;
            if (sign != '<' && sign != '=') return one;
            pull();
            Node other = sum(values, within);
            return sign == '<' ? v -> one.worth(v) < other.worth(v) ? 1 : 0 : v -> one.worth(v) == other.worth(v) ? 1 : 0;
        }

        Node sum(List<String> values, int within) {
            Node left = product(values, within);
            while (look().kind == '+' || look().kind == '-') {
                boolean plus = pull().kind == '+';
                Node one = left;
                Node other = product(values, within);
                left = v -> (int) ((long) one.worth(v) + (plus ? 1L : -1L) * other.worth(v));
            }
            return left;
        }

        Node product(List<String> values, int within) {
            Node left = part(values, within);
            while (look().kind == '*' || look().kind == '/') {
                boolean times = pull().kind == '*';
                Node one = left;
                Node other = part(values, within);
                left = times ? v -> (int) ((long) one.worth(v) * other.worth(v)) : v -> quotient(one.worth(v), other.worth(v));
            }
            return left;
        }

        static int quotient(long one, long other) {
            return other == 0 ? 0 : (int) (one / other);
        }

        Node part(List<String> values, int within) {
            Token t = look();
            if (t.kind == 'n') {
                int n = range(0, 9999);
                return v -> n;
            }
            pull();
            if (t.kind == 'w') {
                if (!values.contains(t.text)) throw fault(3, t);
                return v -> v.get(t.text);
            }
            if (t.kind != '(') throw fault(1, t);
            Node inner = expr(values, within + 1);
            Token close = pull();
            if (close.kind != ')') throw fault(1, close);
            return inner;
        }
    }

    int feed(int... numbers) {
        if (tape.size() + 20 > 700) return NONE;
        for (int n : numbers) {
            for (byte b : java.nio.ByteBuffer.allocate(4).putInt(n).array()) tape.add(b);
        }
        return tape.size();
    }

    int winter(int n) {
        if (n < 0 || n > tape.size()) throw new IllegalArgumentException();
        byte[] text = new byte[n];
        for (int i = 0; i < n; i++) text[i] = tape.get(i);
        tape.clear();
        try {
            world = new Parser(text).winter();
        } catch (Fault f) {
            faultPlace = f.place;
            status[0]++;
            return f.number;
        }
        faultPlace = NONE;
        now = world.start.copy();
        acts = new ArrayDeque<>();
        tracks = new ArrayList<>();
        image = null;
        return 0;
    }

    int fault() {
        return faultPlace;
    }

    // ---- what there is

    private void pk(int pack) {
        if (pack < 0 || pack >= now.packs.size()) throw new NoSuchElementException();
    }

    private void pl(int place) {
        if (place < 0 || place >= world.places.size()) throw new NoSuchElementException();
    }

    private void pe(int person) {
        if (person < 0 || person >= now.people.size()) throw new NoSuchElementException();
    }

    private static void in(int n, int least, int most) {
        if (n < least || n > most) throw new IllegalArgumentException();
    }

    private static void what(int n, int most) {
        if (n < 0 || n > most) throw new NoSuchElementException();
    }

    int count(int what) {
        what(what, 12);
        int[] all = {now.packs.size(), world.places.size(), world.paths.size(), now.people.size(), now.day, snow(now.day),
            lambs(now), acts.size(), tracks.size(), tape.size(), status[0], status[1], status[2]};
        return all[what];
    }

    private static int lambs(Wild w) {
        return w.people.stream().mapToInt(p -> p.lambs).sum();
    }

    private int snow(int day) {
        return world.snow.isEmpty() ? 1 : world.snow.get(day % world.snow.size());
    }

    int pack(int pack, int what) {
        pk(pack);
        what(what, 4);
        Pack p = now.packs.get(pack);
        int places = 0;
        int people = 0;
        for (int i = 0; i < world.places.size(); i++) {
            if (world.places.get(i)[1] == pack) places += 1 << i;
        }
        for (int i = 0; i < now.people.size(); i++) {
            if ((places >> now.people.get(i).home & 1) == 1) people += 1 << i;
        }
        return new int[] {p.hunger, p.store, p.thin, places, people}[what];
    }

    int place(int place, int what) {
        pl(place);
        what(what, 3);
        int homes = 0;
        for (int i = 0; i < now.people.size(); i++) {
            if (now.people.get(i).home == place) homes += 1 << i;
        }
        int paths = (int) world.paths.stream().filter(p -> p.one == place || p.other == place).count();
        return new int[] {world.places.get(place)[0], world.places.get(place)[1], paths, homes}[what];
    }

    int person(int person, int what) {
        pe(person);
        what(what, 8);
        Person p = now.people.get(person);
        return new int[] {p.kind, p.home, p.lambs, p.wood, p.owes, p.cold, p.lamp ? 1 : 0, p.favours,
            rent(now, person, snow(now.day))}[what];
    }

    /** HOURS of the shortest way, by walking on until nothing gets shorter. */
    private Integer hours(int from, int to) {
        Map<Integer, Integer> best = new HashMap<>(Map.of(from, 0));
        boolean changed = true;
        while (changed) {
            changed = false;
            for (Path p : world.paths) {
                for (int turn = 0; turn < 2; turn++) {
                    int a = turn == 0 ? p.one : p.other;
                    int b = turn == 0 ? p.other : p.one;
                    if (best.containsKey(a) && best.get(a) + p.hours < best.getOrDefault(b, 9999)) {
                        best.put(b, best.get(a) + p.hours);
                        changed = true;
                    }
                }
            }
        }
        return best.get(to);
    }

    int far(int place, int other) {
        pl(place);
        pl(other);
        Integer h = hours(place, other);
        return h == null ? NONE : h;
    }

    private boolean may(int person, int place, int hour) {
        Person p = now.people.get(person);
        if (p.home == place || (p.favours >> place & 1) == 1) return true;
        if (world.right == null) return hour >= 6 && hour <= 17;
        return world.right.worth(Map.of("kind", p.kind, "place", world.places.get(place)[0], "hour", hour, "snow", snow(now.day),
            "lamp", p.lamp ? 1 : 0, "owes", p.owes, "day", now.day)) > 0;
    }

    boolean right(int person, int place, int hour) {
        pe(person);
        pl(place);
        what(hour, 23);
        return may(person, place, hour);
    }

    // ---- DAYS

    private int packOf(Person p) {
        return world.places.get(p.home)[1];
    }

    private int rent(Wild w, int person, int snow) {
        if (world.rent == null) return 1;
        Person p = w.people.get(person);
        Pack k = w.packs.get(packOf(p));
        int due = world.rent.worth(Map.of("lambs", p.lambs, "kind", p.kind, "hunger", k.hunger, "store", k.store, "snow", snow,
            "day", w.day, "owes", p.owes));
        return due < 0 ? 0 : due > 99 ? 99 : due;
    }

    private void pass(Wild w, int snow, int dueOfAll, int spared) {
        for (int i = 0; i < w.people.size(); i++) {
            if (i == spared) continue;
            Person p = w.people.get(i);
            int due = dueOfAll >= 0 ? dueOfAll : rent(w, i, snow);
            for (int lamb = 0; lamb < due; lamb++) {
                if (p.lambs > 0) {
                    p.lambs--;
                    w.paidInAll++;
                    Pack k = w.packs.get(packOf(p));
                    if (k.store < 9999) k.store++;
                } else if (p.owes < 9999) {
                    p.owes++;
                }
            }
        }
        Arrays.fill(w.thinToday, false);
        Arrays.fill(w.coldToday, false);
        for (int i = 0; i < w.packs.size(); i++) {
            Pack k = w.packs.get(i);
            if (k.store < k.hunger) {
                k.store = 0;
                k.thin++;
                w.thinToday[i] = true;
            } else {
                k.store -= k.hunger;
            }
        }
        for (int i = 0; i < w.people.size() && snow > 0; i++) {
            Person p = w.people.get(i);
            if (p.wood == 0) {
                p.cold++;
                w.coldToday[i] = true;
            } else {
                p.wood--;
            }
        }
        if (w.day % 7 == 6) w.people.forEach(p -> p.lambs = Math.min(99, p.lambs + p.lambs / 4));
        w.day++;
    }

    private Wild ahead(int days) {
        return ahead(days, -1, -1);
    }

    private Wild ahead(int days, int dueOfAll, int spared) {
        Wild w = now.copy();
        for (int i = 0; i < days; i++) pass(w, snow(w.day), dueOfAll, spared);
        return w;
    }

    // ---- ACTS

    private void keep() {
        acts.addLast(now.copy());
        if (acts.size() > 40) acts.removeFirst();
    }

    private int refuse(int what) {
        status[what]++;
        return NONE;
    }

    int days(int many) {
        if (many < 1 || many > 30 || now.day + many > 999) return refuse(1);
        keep();
        now = ahead(many);
        return now.day;
    }

    int pay(int person, int pack, int lambs) {
        pe(person);
        pk(pack);
        Person p = now.people.get(person);
        if (lambs < 1 || lambs > 99 || p.lambs < lambs) return refuse(1);
        keep();
        p.lambs -= lambs;
        now.packs.get(pack).store = Math.min(9999, now.packs.get(pack).store + lambs);
        if (packOf(p) == pack) p.owes = Math.max(0, p.owes - lambs);
        return p.lambs;
    }

    int gather(int person, int wood) {
        pe(person);
        if (wood < 1 || wood > 99) return refuse(1);
        keep();
        Person p = now.people.get(person);
        p.wood = Math.min(99, p.wood + wood);
        return p.wood;
    }

    boolean lamp(int person, boolean lit) {
        pe(person);
        if (now.people.get(person).lamp == lit) {
            refuse(1);
            return false;
        }
        keep();
        now.people.get(person).lamp = lit;
        return true;
    }

    boolean favour(int person, int place, boolean granted) {
        pe(person);
        pl(place);
        Person p = now.people.get(person);
        if ((p.favours >> place & 1) == 1 == granted) {
            refuse(1);
            return false;
        }
        keep();
        p.favours ^= 1 << place;
        return true;
    }

    int undo() {
        if (acts.isEmpty()) return NONE;
        now = acts.removeLast();
        return acts.size();
    }

    // ---- ways: every HOUR, every PLACE, every set of visited PLACES

    private boolean[][][] walks(int person, int hour, int told) {
        int n = world.places.size();
        boolean[][] may = new boolean[n][24];
        for (int p = 0; p < n; p++) {
            for (int h = 0; h < 24; h++) may[p][h] = may(person, p, h);
        }
        boolean[][][] can = new boolean[96][told + 1][n];
        int home = now.people.get(person).home;
        can[hour][told & 1 << home][home] = true;
        for (int h = hour + 1; h <= 95; h++) {
            for (int set = 0; set <= told; set++) {
                for (int p = 0; p < n; p++) can[h][set][p] |= can[h - 1][set][p];
                for (Path path : world.paths) {
                    int from = h - path.hours;
                    if (from < hour) continue;
                    if (can[from][set][path.one] && may[path.other][h % 24]) can[h][set | told & 1 << path.other][path.other] = true;
                    if (can[from][set][path.other] && may[path.one][h % 24]) can[h][set | told & 1 << path.one][path.one] = true;
                }
            }
        }
        return can;
    }

    private int soonest(boolean[][][] can, int set, int place) {
        for (int h = 0; h < 96; h++) {
            if (can[h][set][place]) return h;
        }
        return NONE;
    }

    int way(int person, int to, int hour) {
        pe(person);
        pl(to);
        in(hour, 0, 23);
        return soonest(walks(person, hour, 0), 0, to);
    }

    int errands(int person, int places, int hour) {
        pe(person);
        if (places < 0 || places >= 1 << world.places.size()) throw new IllegalArgumentException();
        in(hour, 0, 23);
        return soonest(walks(person, hour, places), places, now.people.get(person).home);
    }

    int reach(int person, int hour, int hours) {
        pe(person);
        in(hour, 0, 23);
        in(hours, 0, 48);
        boolean[][][] can = walks(person, hour, 0);
        int bits = 0;
        for (int p = 0; p < world.places.size(); p++) {
            if (can[hour + hours][0][p]) bits += 1 << p;
        }
        return bits;
    }

    int meeting(int one, int other, int hour, int what) {
        pe(one);
        pe(other);
        what(what, 1);
        if (one == other) throw new IllegalArgumentException();
        in(hour, 0, 23);
        boolean[][][] a = walks(one, hour, 0);
        boolean[][][] b = walks(other, hour, 0);
        for (int h = hour; h < 96; h++) {
            for (int p = 0; p < world.places.size(); p++) {
                if (a[h][0][p] && b[h][0][p]) return what == 0 ? p : h;
            }
        }
        return NONE;
    }

    /** Every set of FAVOURS, the smallest that lets him through. */
    int asked(int person, int to, int hour) {
        pe(person);
        pl(to);
        what(hour, 23);
        int best = NONE;
        int n = world.places.size();
        for (int set = 0; set < 1 << n; set++) {
            if (best != NONE && Integer.bitCount(set) >= best) continue;
            int in = 1 << now.people.get(person).home;
            for (int round = 0; round < n; round++) {
                for (Path p : world.paths) {
                    for (int turn = 0; turn < 2; turn++) {
                        int a = turn == 0 ? p.one : p.other;
                        int b = turn == 0 ? p.other : p.one;
                        if ((in >> a & 1) == 1 && ((set >> b & 1) == 1 || may(person, b, hour))) in |= 1 << b;
                    }
                }
            }
            if ((in >> to & 1) == 1) best = Integer.bitCount(set);
        }
        return best;
    }

    int lodged(int place) {
        pl(place);
        int best = NONE;
        for (int p = 0; p < world.places.size(); p++) {
            if (world.places.get(p)[0] != 0 || hours(place, p) == null) continue;
            if (best == NONE || hours(place, p) < hours(place, best)) best = p;
        }
        return best;
    }

    // ---- DAYS ahead

    int then(int person, int days, int what) {
        pe(person);
        what(what, 3);
        in(days, 0, 99);
        Person p = ahead(days).people.get(person);
        return new int[] {p.lambs, p.wood, p.owes, p.cold - now.people.get(person).cold}[what];
    }

    int packThen(int pack, int days, int what) {
        pk(pack);
        what(what, 1);
        in(days, 0, 99);
        Pack p = ahead(days).packs.get(pack);
        return what == 0 ? p.store : p.thin - now.packs.get(pack).thin;
    }

    private boolean owesMore(Wild w) {
        for (int i = 0; i < w.people.size(); i++) {
            if (w.people.get(i).owes > now.people.get(i).owes) return true;
        }
        return false;
    }

    private int coldDays(Wild w) {
        int sum = 0;
        for (int i = 0; i < w.people.size(); i++) sum += w.people.get(i).cold - now.people.get(i).cold;
        return sum;
    }

    private int thinPacks(Wild w) {
        int bits = 0;
        for (int i = 0; i < w.packs.size(); i++) {
            if (w.packs.get(i).thin > now.packs.get(i).thin) bits += 1 << i;
        }
        return bits;
    }

    int lasts() {
        for (int d = 1; d <= 99; d++) {
            Wild w = ahead(d);
            if (coldDays(w) > 0 || thinPacks(w) > 0 || owesMore(w)) return d - 1;
        }
        return 99;
    }

    int fairest(int days) {
        in(days, 0, 99);
        for (int due = 0; due <= 20; due++) {
            Wild w = ahead(days, due, -1);
            if (thinPacks(w) == 0 && !owesMore(w)) return due;
        }
        return NONE;
    }

    int needed(int days) {
        in(days, 0, 99);
        int bits = 0;
        for (int i = 0; i < now.people.size(); i++) {
            int without = thinPacks(ahead(days, -1, i));
            int with = thinPacks(ahead(days));
            if ((without & ~with) != 0) bits += 1 << i;
        }
        return bits;
    }

    int wood(int person, int days) {
        pe(person);
        in(days, 0, 99);
        for (int wood = 0; ; wood++) {
            Wild w = now.copy();
            w.people.get(person).wood += wood;
            int before = w.people.get(person).cold;
            for (int i = 0; i < days; i++) pass(w, snow(w.day), -1, -1);
            if (w.people.get(person).cold == before) return wood;
        }
    }

    int edge(int person, int hour) {
        pe(person);
        in(hour, 0, 23);
        boolean[][][] can = walks(person, hour, 0);
        for (int h = hour; h < 96; h++) {
            for (int p = 0; p < world.places.size(); p++) {
                if (world.places.get(p)[0] == 2 && can[h][0][p]) return p;
            }
        }
        return NONE;
    }

    // ---- TRACKS

    int track(int place, int hour) {
        pl(place);
        if (tracks.size() >= 6 || hour < 0 || hour > 71) return refuse(2);
        tracks.add(new int[] {place, hour, tracks.size()});
        return tracks.size();
    }

    void forget() {
        tracks = new ArrayList<>();
    }

    /** Goes hour by hour through the land; on a path in the HOUR of a TRACK he left none. */
    private boolean couldLeave(int person, List<int[]> some) {
        int n = world.places.size();
        boolean[][] at = new boolean[73][n];
        at[0][now.people.get(person).home] = true;
        for (int h = 0; h <= 72; h++) {
            for (int p = 0; p < n; p++) {
                if (h > 0) at[h][p] |= at[h - 1][p];
                for (Path path : world.paths) {
                    int from = h - path.hours;
                    if (from < 0 || path.one != p && path.other != p) continue;
                    int hour = h;
                    boolean between = some.stream().anyMatch(t -> t[1] > from && t[1] < hour);
                    if (!between && at[from][path.one == p ? path.other : path.one]) at[h][p] = true;
                }
            }
            for (int[] t : some) {
                for (int p = 0; p < n; p++) {
                    if (t[1] == h && p != t[0]) at[h][p] = false;
                }
            }
        }
        for (boolean there : at[72]) {
            if (there) return true;
        }
        return false;
    }

    int suspects() {
        return suspects(tracks);
    }

    private int suspects(List<int[]> some) {
        int bits = 0;
        for (int i = 0; i < now.people.size(); i++) {
            if (couldLeave(i, some)) bits += 1 << i;
        }
        return bits;
    }

    int alibi(int person) {
        pe(person);
        List<int[]> sorted = new ArrayList<>(tracks);
        sorted.sort((a, b) -> a[1] - b[1]);
        for (int i = 1; i <= sorted.size(); i++) {
            if (!couldLeave(person, sorted.subList(0, i))) return sorted.get(i - 1)[2];
        }
        return NONE;
    }

    int look(int hour) {
        in(hour, 0, 71);
        int best = NONE;
        int least = 99;
        for (int p = 0; p < world.places.size(); p++) {
            List<int[]> more = new ArrayList<>(tracks);
            more.add(new int[] {p, hour, 9});
            int with = Integer.bitCount(suspects(more) & suspects());
            int without = Integer.bitCount(suspects() & ~suspects(more));
            if (Math.abs(with - without) < least) {
                least = Math.abs(with - without);
                best = p;
            }
        }
        return best;
    }

    // ---- BARGAINS, FROSTS, WINTERS

    int bargain(int person, int pack, int lambs, int what) {
        pe(person);
        pk(pack);
        what(what, 1);
        in(lambs, 1, 99);
        Pack k = now.packs.get(pack);
        int worth = k.store < k.hunger ? 2 * lambs : lambs;
        int[][] his = {{0, 10}, {-lambs, 10 - lambs}};
        int[][] its = {{0, -4}, {worth, worth - 4}};
        int choices = now.people.get(person).lambs >= lambs ? 2 : 1;
        List<Integer> rest = new ArrayList<>();
        for (int g = 0; g < choices; g++) {
            for (int f = 0; f < 2; f++) {
                boolean rests = its[g][1 - f] <= its[g][f];
                for (int other = 0; other < choices; other++) rests &= his[other][f] <= his[g][f];
                if (rests) rest.add(10 * g + f);
            }
        }
        return what == 0 ? rest.size() : rest.isEmpty() ? NONE : rest.get(0);
    }

    /** Every row of DAYS, each with or without frost. */
    int frosts(int tenths, int days, int many, int what) {
        what(what, 1);
        in(tenths, 0, 10);
        in(days, 1, 9);
        in(many, 0, 9);
        long upper = 0;
        for (int row = 0; row < 1 << days; row++) {
            long chance = 1;
            for (int d = 0; d < days; d++) chance *= (row >> d & 1) == 1 ? tenths : 10 - tenths;
            if (Integer.bitCount(row) >= many) upper += chance;
        }
        long lower = 1;
        for (int d = 0; d < days; d++) lower *= 10;
        java.math.BigInteger common = java.math.BigInteger.valueOf(upper).gcd(java.math.BigInteger.valueOf(lower));
        return (int) ((what == 0 ? upper : lower) / common.longValue());
    }

    int winters(int seed, int n, int what) {
        what(what, 2);
        in(n, 0, 60);
        Wild w = now.copy();
        int[] held = {seed};
        int cold = 0;
        int thin = 0;
        for (int i = 0; i < n; i++) {
            int snow = draw(held, 10);
            if (!w.packs.isEmpty()) {
                Pack k = w.packs.get(draw(held, w.packs.size()));
                int turn = draw(held, 3);
                if (turn == 0 && k.hunger < 20) k.hunger++;
                if (turn == 1 && k.hunger > 0) k.hunger--;
            }
            pass(w, snow, -1, -1);
            boolean isCold = false;
            boolean isThin = false;
            for (boolean b : w.coldToday) isCold |= b;
            for (boolean b : w.thinToday) isThin |= b;
            cold += isCold ? 1 : 0;
            thin += isThin ? 1 : 0;
        }
        return new int[] {cold, thin, lambs(w)}[what];
    }

    private static int draw(int[] seed, int of) {
        seed[0] = (int) (seed[0] * 1103515245L + 12345L);
        int bits = 0;
        for (int bit = 16; bit <= 30; bit++) bits += (seed[0] >> bit & 1) << bit - 16;
        return bits % of;
    }

    // ---- what is open, who comes first

    int open(int person, int place) {
        pe(person);
        pl(place);
        int hours = 0;
        for (int h = 0; h < 24; h++) hours += may(person, place, h) ? 1 : 0;
        return hours;
    }

    int closed() {
        int bits = 0;
        for (int p = 0; p < world.places.size(); p++) {
            int hours = 0;
            for (int i = 0; i < now.people.size(); i++) hours += open(i, p);
            if (hours == 0) bits += 1 << p;
        }
        return bits;
    }

    /** Walks every way without a PLACE twice; of the shortest ones the first in the order of their PLACES. */
    int breach(int person, int to, int hour) {
        pe(person);
        pl(to);
        in(hour, 0, 23);
        List<Integer> best = new ArrayList<>();
        int[] least = {9999};
        List<Integer> way = new ArrayList<>(List.of(now.people.get(person).home));
        tryWays(way, 0, to, best, least);
        if (least[0] == 9999) return -2;
        int h = hour;
        for (int i = 1; i < best.size(); i++) {
            h += path(best.get(i - 1), best.get(i));
            if (!may(person, best.get(i), h % 24)) return best.get(i);
        }
        return NONE;
    }

    private int path(int a, int b) {
        for (Path p : world.paths) {
            if (p.one == a && p.other == b || p.one == b && p.other == a) return p.hours;
        }
        return 0;
    }

    private void tryWays(List<Integer> way, int hours, int to, List<Integer> best, int[] least) {
        int here = way.get(way.size() - 1);
        if (here == to) {
            if (hours < least[0]) {
                least[0] = hours;
                best.clear();
                best.addAll(way);
            }
            return;
        }
        for (int next = 0; next < world.places.size(); next++) {
            if (path(here, next) > 0 && !way.contains(next)) {
                way.add(next);
                tryWays(way, hours + path(here, next), to, best, least);
                way.remove(way.size() - 1);
            }
        }
    }

    int firstCold(int what) {
        what(what, 1);
        for (int d = 1; d <= 99; d++) {
            Wild w = ahead(d);
            for (int i = 0; i < w.people.size(); i++) {
                if (w.people.get(i).cold > now.people.get(i).cold) return what == 0 ? d : i;
            }
        }
        return NONE;
    }

    int firstThin(int what) {
        what(what, 1);
        for (int d = 1; d <= 99; d++) {
            Wild w = ahead(d);
            for (int i = 0; i < w.packs.size(); i++) {
                if (w.packs.get(i).thin > now.packs.get(i).thin) return what == 0 ? d : i;
            }
        }
        return NONE;
    }

    int paid(int days) {
        in(days, 0, 99);
        return ahead(days).paidInAll;
    }

    int debtor() {
        int most = now.people.stream().mapToInt(p -> p.owes).max().orElse(0);
        for (int i = 0; i < now.people.size() && most > 0; i++) {
            if (now.people.get(i).owes == most) return i;
        }
        return NONE;
    }

    int neighbour(int person) {
        pe(person);
        int best = NONE;
        int least = 9999;
        for (int i = 0; i < now.people.size(); i++) {
            Integer h = hours(now.people.get(person).home, now.people.get(i).home);
            if (i != person && h != null && h < least) {
                least = h;
                best = i;
            }
        }
        return best;
    }

    // ---- the image

    void image() {
        image = new Image(now.copy(), copy(acts), new ArrayList<>(tracks));
    }

    boolean restore() {
        if (image == null) return false;
        now = image.wild.copy();
        acts = copy(image.acts);
        tracks = new ArrayList<>(image.tracks);
        return true;
    }

    private static ArrayDeque<Wild> copy(ArrayDeque<Wild> from) {
        ArrayDeque<Wild> to = new ArrayDeque<>();
        from.forEach(w -> to.addLast(w.copy()));
        return to;
    }
}
