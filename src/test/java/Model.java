import java.util.ArrayDeque;
import java.util.ArrayList;
import java.util.Collections;
import java.util.Deque;
import java.util.List;

/**
 * The document told a second time, by trying everything: objects that are copied whole, all subsets, all orders, all
 * yards. It is compared with BeatBounds call by call, so it shares no code and no shortcut with it.
 */
final class Model {
    static final int NONE = -1000000, BAD = -1000001, STATE = -1000002, FULL = -1000003;

    /** What a witness was bumped with. */
    record Bump(int yard, int pain, int year) { }

    /** Bodies that are lent to all; each leaves its number in the trace. */
    interface Lent {
        Life life();

        default int size() {
            return size10();
        }

        default int mark() {
            return mark20();
        }

        default int size10() {
            life().trace.add(10);
            return life().swornStones;
        }

        default int mark20() {
            life().trace.add(20);
            return life().number;
        }
    }

    /** What bodies may ask of a witness. */
    static final class Life {
        int number;
        int age;
        int swornStones;
        List<Integer> trace;
    }

    abstract static class Asked implements Lent {
        final Life life;

        Asked(Life life) {
            this.life = life;
        }

        @Override public Life life() {
            return life;
        }
    }

    static class Honest extends Asked {
        Honest(Life life) {
            super(life);
        }

        @Override public int size() {
            life.trace.add(11);
            int lent = size10();
            return lent + mark();
        }

        @Override public int mark() {
            life.trace.add(21);
            return mark20() + life.age;
        }
    }

    static final class Bribed extends Honest {
        Bribed(Life life) {
            super(life);
        }

        @Override public int size() {
            life.trace.add(12);
            return 0 - super.size();
        }

        @Override public int mark() {
            life.trace.add(24);
            return super.mark() * 2;
        }
    }

    static final class Drifting extends Honest {
        Drifting(Life life) {
            super(life);
        }

        @Override public int mark() {
            life.trace.add(22);
            return super.mark() - 1000;
        }
    }

    static class Twin extends Asked {
        Twin(Life life) {
            super(life);
        }

        @Override public int size() {
            life.trace.add(13);
            return size10() - 100;
        }

        @Override public int mark() {
            life.trace.add(23);
            int lent = mark20();
            return lent - size();
        }
    }

    static final class Note extends Twin {
        Note(Life life) {
            super(life);
        }

        @Override public int size() {
            life.trace.add(14);
            return super.size() * 2;
        }
    }

    static final class Person {
        char sort;
        int age;
        int ends;
        int bribe;
        Bump[] bumps = new Bump[6];

        Person twin() {
            Person p = new Person();
            p.sort = sort;
            p.age = age;
            p.ends = ends;
            p.bribe = bribe;
            p.bumps = bumps.clone();
            return p;
        }

        boolean alive() {
            return age < ends;
        }

        boolean takable() {
            return alive() && age <= 60;
        }
    }

    static final class World {
        int lasts;
        int drift;
        int year;
        List<Integer> stones = new ArrayList<>();
        List<Person> people = new ArrayList<>();

        World twin() {
            World w = new World();
            w.lasts = lasts;
            w.drift = drift;
            w.year = year;
            w.stones = new ArrayList<>(stones);
            for (Person p : people) {
                w.people.add(p.twin());
            }
            return w;
        }

        void pass(int years) {
            year += years;
            for (Person p : people) {
                p.age += years;
            }
        }

        int bump(int stone, int who, int pain) {
            int bumped = 0;
            for (int i = 0; i < people.size(); i++) {
                if ((who & 1 << i) != 0 && people.get(i).takable()) {
                    people.get(i).bumps[stone] = new Bump(stones.get(stone), pain, year);
                    bumped++;
                }
            }
            return bumped;
        }

        Integer says(int one, int stone) {
            Person p = people.get(one);
            Bump b = p.bumps[stone];
            if (b == null) {
                return null;
            }
            int since = year - b.year;
            boolean remembers = since < lasts * b.pain;
            if (!remembers) {
                return null;
            }
            if (!p.alive() && p.sort != 'n') {
                return null;
            }
            if (p.sort == 't' && b.pain < 5) {
                return null;
            }
            int said = b.yard;
            if (p.sort == 'b') {
                said += p.bribe;
            }
            if (p.sort == 'd') {
                for (int y = drift; y <= since; y += drift) {
                    said++;
                }
            }
            return said < 0 ? 0 : said > 99 ? 99 : said;
        }

        List<Integer> swearers(int stone) {
            List<Integer> all = new ArrayList<>();
            for (int i = 0; i < people.size(); i++) {
                if (says(i, stone) != null) {
                    all.add(i);
                }
            }
            return all;
        }

        List<Integer> said(int stone) {
            List<Integer> all = new ArrayList<>();
            for (int i : swearers(stone)) {
                all.add(says(i, stone));
            }
            return all;
        }
    }

    static final class Line {
        int lane;
        int[] items;
    }

    World world;
    final Deque<World> past = new ArrayDeque<>();
    final World[] images = new World[2];
    final Line[] lines = new Line[8];
    final List<Integer> tape = new ArrayList<>();
    final List<Integer> trace = new ArrayList<>();
    int fault;
    int status;

    private int find(int n) {
        status = n;
        return -1000010 - n;
    }

    private int good(int answer) {
        status = 0;
        return answer;
    }

    private static boolean in(int v, int least, int greatest) {
        return least <= v && v <= greatest;
    }

    private boolean noStone(int s) {
        return world == null || !in(s, 0, world.stones.size() - 1);
    }

    private boolean noWitness(int w) {
        return world == null || !in(w, 0, world.people.size() - 1);
    }

    private void act() {
        past.addLast(world.twin());
        if (past.size() > 24) {
            past.removeFirst();
        }
    }

    private static int bits(List<Integer> set) {
        int bits = 0;
        for (int i : set) {
            bits |= 1 << i;
        }
        return bits;
    }

    private static int middle(List<Integer> said) {
        List<Integer> rising = new ArrayList<>(said);
        Collections.sort(rising);
        return rising.get(rising.size() / 2);
    }

    int row(int row, int lane, int n) {
        if (!in(row, 0, 7) || !in(lane, 0, 2) || n > 40) {
            return BAD;
        }
        if (n < 0) {
            return find(4);
        }
        lines[row] = new Line();
        lines[row].lane = lane;
        lines[row].items = new int[n];
        return good(n);
    }

    int set(int row, int i, int v) {
        if (!in(row, 0, 7)) {
            return BAD;
        }
        if (lines[row] == null) {
            return find(1);
        }
        if (!in(i, 0, lines[row].items.length - 1)) {
            return find(2);
        }
        int drop = lines[row].lane == 0 ? 24 : lines[row].lane == 1 ? 16 : 0;
        lines[row].items[i] = v << drop >> drop;
        return good(lines[row].items[i]);
    }

    int copy(int a, int i, int b, int j, int n) {
        if (!in(a, 0, 7) || !in(b, 0, 7)) {
            return BAD;
        }
        if (lines[a] == null || lines[b] == null) {
            return find(1);
        }
        if (lines[a].lane != lines[b].lane) {
            return find(5);
        }
        if (i < 0 || j < 0 || n < 0 || (long) i + n > lines[a].items.length || (long) j + n > lines[b].items.length) {
            return find(2);
        }
        int[] ahead = lines[a].items.clone();
        for (int k = 0; k < n; k++) {
            lines[b].items[j + k] = ahead[i + k];
        }
        return good(n);
    }

    int drop(int row) {
        if (!in(row, 0, 7)) {
            return BAD;
        }
        if (lines[row] == null) {
            return find(1);
        }
        int n = lines[row].items.length;
        lines[row] = null;
        return good(n);
    }

    int feed(int letter) {
        if (!in(letter, 0, 255)) {
            return BAD;
        }
        if (tape.size() == 120) {
            return FULL;
        }
        tape.add(letter);
        return tape.size();
    }

    /** A token: what it is ('9': a number, '!': none, '$': the end), where, and how much. */
    record Token(char what, int at, int value) { }

    private List<Token> tokens() {
        List<Token> all = new ArrayList<>();
        int at = 0;
        while (at < tape.size()) {
            int c = tape.get(at);
            int end = at + 1;
            if (in(c, '0', '9')) {
                while (end < tape.size() && in(tape.get(end), '0', '9')) {
                    end++;
                }
                int value = c - '0';
                if (end - at == 2) {
                    value = value * 10 + tape.get(at + 1) - '0';
                }
                all.add(new Token(end - at > 2 ? '!' : '9', at, value));
            } else {
                all.add(new Token(in(c, 'a', 'z') || c == ',' || c == ';' ? (char) c : '!', at, 0));
            }
            at = end;
        }
        all.add(new Token('$', tape.size(), 0));
        return all;
    }

    private int faulty(int number, Token t) {
        fault = number;
        return -1000100 - t.at;
    }

    int parish() {
        List<Token> all = tokens();
        tape.clear();
        World w = new World();
        // what may come next is a text of forms: a letter or sign for itself, L D Y A E for numbers
        String form = "wL,D;";
        int inForm = 0;
        Person p = null;
        for (Token t : all) {
            if (inForm == form.length()) {
                boolean stones = p == null;
                if (t.what == '$' && p != null) {
                    world = w;
                    past.clear();
                    return w.people.size();
                }
                if (t.what == 's' && stones) {
                    if (w.stones.size() == 6) {
                        return faulty(3, t);
                    }
                    form = "sY;";
                } else if ("hbdtn".indexOf(t.what) >= 0 && !w.stones.isEmpty()) {
                    if (w.people.size() == 6) {
                        return faulty(3, t);
                    }
                    form = t.what + "A,E;";
                    p = new Person();
                    p.sort = t.what;
                    w.people.add(p);
                } else {
                    return faulty(1, t);
                }
                inForm = 0;
            }
            char due = form.charAt(inForm++);
            if (Character.isUpperCase(due)) {
                if (t.what != '9') {
                    return faulty(1, t);
                }
                int v = t.value;
                switch (due) {
                    case 'L' -> w.lasts = v;
                    case 'D' -> w.drift = v;
                    case 'Y' -> w.stones.add(v);
                    case 'A' -> p.age = v;
                    default -> p.ends = v;
                }
                boolean told = due == 'Y' || (due == 'A' ? v <= 60 : due == 'E' ? v > p.age : in(v, 1, 30));
                if (!told) {
                    return faulty(2, t);
                }
            } else if (t.what != due) {
                return faulty(1, t);
            }
        }
        throw new IllegalStateException("a text has an end");
    }

    int fault() {
        return fault;
    }

    int undo() {
        if (past.isEmpty()) {
            return STATE;
        }
        world = past.removeLast();
        return past.size();
    }

    int walk(int stone, int who, int pain) {
        if (noStone(stone) || !in(pain, 1, 9) || !in(who, 0, (1 << world.people.size()) - 1)) {
            return BAD;
        }
        act();
        return world.bump(stone, who, pain);
    }

    int move(int stone, int yard) {
        if (noStone(stone) || !in(yard, 0, 99)) {
            return BAD;
        }
        act();
        return world.stones.set(stone, yard);
    }

    int bribe(int witness, int yards) {
        if (noWitness(witness) || !in(yards, -20, 20)) {
            return BAD;
        }
        if (world.people.get(witness).sort != 'b') {
            return STATE;
        }
        act();
        int was = world.people.get(witness).bribe;
        world.people.get(witness).bribe = yards;
        return was;
    }

    int years(int n) {
        if (world == null) {
            return STATE;
        }
        if (!in(n, 1, 24)) {
            return BAD;
        }
        if (world.year + n > 999) {
            return FULL;
        }
        for (int i = 0; i < n; i++) {
            act();
            world.pass(1);
        }
        return Integer.bitCount(count(4));
    }

    int witness(int witness, int what) {
        if (noWitness(witness) || !in(what, 0, 4)) {
            return BAD;
        }
        Person p = world.people.get(witness);
        int[] answers = {p.age, p.ends, p.alive() ? 1 : 0, p.bribe, bits(stonesOf(witness))};
        return answers[what];
    }

    private List<Integer> stonesOf(int witness) {
        List<Integer> stones = new ArrayList<>();
        for (int s = 0; s < world.stones.size(); s++) {
            if (world.says(witness, s) != null) {
                stones.add(s);
            }
        }
        return stones;
    }

    int memory(int witness, int stone, int what) {
        if (noWitness(witness) || noStone(stone) || !in(what, 0, 3)) {
            return BAD;
        }
        if (what == 3) {
            Integer said = world.says(witness, stone);
            return said == null ? NONE : said;
        }
        Bump b = world.people.get(witness).bumps[stone];
        return b == null ? NONE : new int[] {b.yard, b.pain, b.year}[what];
    }

    int stone(int stone) {
        return noStone(stone) ? BAD : world.stones.get(stone);
    }

    int sworn(int stone, int what) {
        if (noStone(stone) || !in(what, 0, 5)) {
            return BAD;
        }
        List<Integer> who = world.swearers(stone);
        List<Integer> said = world.said(stone);
        if (what < 2) {
            return what == 0 ? who.size() : bits(who);
        }
        if (who.isEmpty()) {
            return NONE;
        }
        if (what < 4) {
            return what == 2 ? Collections.min(said) : Collections.max(said);
        }
        if (what == 4) {
            return middle(said);
        }
        int oldest = who.get(0);
        for (int w : who) {
            if (world.people.get(w).age > world.people.get(oldest).age) {
                oldest = w;
            }
        }
        return world.says(oldest, stone);
    }

    int belief(int stone, int yard, int what) {
        if (noStone(stone) || !in(yard, 0, 99) || !in(what, 0, 1)) {
            return BAD;
        }
        List<Integer> said = world.said(stone);
        if (said.isEmpty()) {
            return STATE;
        }
        int above = Collections.frequency(said, yard);
        int below = said.size();
        for (int lower = 1; lower <= below; lower++) {
            // the first denominator by which the same fraction can be told
            if (above * lower % below == 0) {
                return what == 0 ? above * lower / below : lower;
            }
        }
        throw new IllegalStateException();
    }

    int likeliest(int stone) {
        if (noStone(stone)) {
            return BAD;
        }
        int best = NONE;
        int most = 0;
        for (int yard = 0; yard <= 99; yard++) {
            int n = Collections.frequency(world.said(stone), yard);
            if (n > most) {
                most = n;
                best = yard;
            }
        }
        return best;
    }

    int till(int stone, int n) {
        if (noStone(stone) || !in(n, 1, 6)) {
            return BAD;
        }
        World later = world.twin();
        for (int y = 0; y <= 99; y++) {
            if (later.swearers(stone).size() < n) {
                return y;
            }
            later.pass(1);
        }
        return NONE;
    }

    int take(int stone, int pain, int k, int n, int what) {
        if (noStone(stone) || !in(pain, 1, 9) || !in(k, 1, 60) || !in(n, 1, 6) || !in(what, 0, 1)) {
            return BAD;
        }
        for (int size = 0; size <= 6; size++) {
            for (int who = 0; who < 1 << world.people.size(); who++) {
                if (Integer.bitCount(who) == size && allTakable(who) && enough(stone, who, pain, k, n)) {
                    return what == 0 ? size : who;
                }
            }
        }
        return NONE;
    }

    private boolean allTakable(int who) {
        for (int i = 0; i < world.people.size(); i++) {
            if ((who & 1 << i) != 0 && !world.people.get(i).takable()) {
                return false;
            }
        }
        return true;
    }

    private boolean enough(int stone, int who, int pain, int k, int n) {
        World later = world.twin();
        later.bump(stone, who, pain);
        later.pass(k);
        return later.swearers(stone).size() >= n;
    }

    int pain(int stone, int k, int n) {
        if (noStone(stone) || !in(k, 1, 60) || !in(n, 1, 6)) {
            return BAD;
        }
        for (int pain = 1; pain <= 9; pain++) {
            if (enough(stone, 63, pain, k, n)) {
                return pain;
            }
        }
        return NONE;
    }

    int order(int stone, int k) {
        if (noStone(stone) || !in(k, -1, 5)) {
            return BAD;
        }
        List<List<Integer>> orders = new ArrayList<>();
        allOrders(stone, world.swearers(stone), new ArrayList<>(), orders);
        if (k == -1) {
            return orders.size();
        }
        return orders.isEmpty() || k >= orders.get(0).size() ? NONE : orders.get(0).get(k);
    }

    private void allOrders(int stone, List<Integer> left, List<Integer> sofar, List<List<Integer>> orders) {
        if (left.isEmpty()) {
            orders.add(sofar);
        }
        for (int w : left) {
            boolean fits = sofar.isEmpty()
                || Math.abs(world.says(sofar.get(sofar.size() - 1), stone) - world.says(w, stone)) <= 2;
            if (fits) {
                List<Integer> others = new ArrayList<>(left);
                others.remove((Integer) w);
                List<Integer> longer = new ArrayList<>(sofar);
                longer.add(w);
                allOrders(stone, others, longer, orders);
            }
        }
    }

    int stood(int row, int i, int what) {
        if (world == null) {
            return STATE;
        }
        if (!in(row, 0, 7) || !in(what, 0, 1)) {
            return BAD;
        }
        if (lines[row] == null) {
            return find(1);
        }
        int many = world.people.size();
        if (i < 0 || (long) i + many > lines[row].items.length) {
            return find(2);
        }
        List<Integer> fits = new ArrayList<>();
        for (int yard = 0; yard <= 99; yard++) {
            boolean all = true;
            for (int w = 0; w < many; w++) {
                long said = lines[row].items[i + w];
                long off = said - yard;
                boolean drifting = world.people.get(w).sort == 'd';
                all &= said == -1 || off >= -3 && off <= (drifting ? 12 : 3);
            }
            if (all) {
                fits.add(yard);
            }
        }
        return good(what == 0 ? fits.size() : fits.isEmpty() ? NONE : fits.get(0));
    }

    int shift(int stone, int k) {
        if (noStone(stone) || !in(k, 0, 6)) {
            return BAD;
        }
        List<Integer> who = world.swearers(stone);
        if (who.isEmpty()) {
            return NONE;
        }
        int was = middle(world.said(stone));
        int most = 0;
        for (int set = 0; set < 64; set++) {
            List<Integer> said = new ArrayList<>();
            int bought = 0;
            for (int w : who) {
                boolean buys = (set & 1 << w) != 0 && world.people.get(w).sort == 'b';
                bought += buys ? 1 : 0;
                said.add(buys ? 99 : world.says(w, stone));
            }
            if (bought <= k) {
                most = Math.max(most, middle(said) - was);
            }
        }
        return most;
    }

    int map(int stone, int yard) {
        if (noStone(stone) || !in(yard, 0, 99)) {
            return BAD;
        }
        int others = 0;
        for (int said : world.said(stone)) {
            others += said != yard ? 1 : 0;
        }
        return others;
    }

    int agree(int n) {
        if (world == null) {
            return STATE;
        }
        if (!in(n, 1, 6)) {
            return BAD;
        }
        int bits = 0;
        for (int s = 0; s < world.stones.size(); s++) {
            for (int yard = 0; yard <= 99; yard++) {
                if (Collections.frequency(world.said(s), yard) >= n) {
                    bits |= 1 << s;
                }
            }
        }
        return bits;
    }

    int drawn(int n, int seed, int what) {
        if (world == null) {
            return STATE;
        }
        if (!in(n, 0, 60) || !in(seed, 1, 999999) || !in(what, 0, 1)) {
            return BAD;
        }
        World w = world.twin();
        long x = seed;
        for (int y = 0; y < n; y++) {
            x = (x * 16807L) % 2147483647L;
            int stone = (int) (x % w.stones.size());
            if (x % 7 == 0) {
                w.bump(stone, 63, (int) (x % 9) + 1);
            }
            if (x % 5 == 0 && w.stones.get(stone) < 99) {
                w.stones.set(stone, w.stones.get(stone) + 1);
            }
            w.pass(1);
        }
        int bits = 0;
        int sum = 0;
        for (int s = 0; s < w.stones.size(); s++) {
            for (int said : w.said(s)) {
                bits |= 1 << s;
                sum += said;
            }
        }
        return what == 0 ? bits : sum;
    }

    int image(int k) {
        if (!in(k, 0, 1)) {
            return BAD;
        }
        if (world == null) {
            return STATE;
        }
        images[k] = world.twin();
        return 1;
    }

    int restore(int k) {
        if (!in(k, 0, 1)) {
            return BAD;
        }
        if (images[k] == null) {
            return STATE;
        }
        world = images[k].twin();
        past.clear();
        return 1;
    }

    private Asked asked(int one) {
        Life life = new Life();
        life.number = one;
        life.age = world.people.get(one).age;
        life.swornStones = stonesOf(one).size();
        life.trace = trace;
        return switch (world.people.get(one).sort) {
            case 'h' -> new Honest(life);
            case 'b' -> new Bribed(life);
            case 'd' -> new Drifting(life);
            case 't' -> new Twin(life);
            default -> new Note(life);
        };
    }

    int kind(int one) {
        return noWitness(one) ? BAD : 1 + "hbdtn".indexOf(world.people.get(one).sort);
    }

    int as(int one, int kind) {
        if (noWitness(one) || !in(kind, 0, 5)) {
            return BAD;
        }
        Class<?>[] kinds = {Lent.class, Honest.class, Bribed.class, Drifting.class, Twin.class, Note.class};
        return kinds[kind].isInstance(asked(one)) ? good(one) : find(3);
    }

    int ask(int one, int what) {
        if (noWitness(one) || !in(what, 0, 1)) {
            return BAD;
        }
        trace.clear();
        Asked witness = asked(one);
        return what == 0 ? witness.size() : witness.mark();
    }

    int trace(int i) {
        return in(i, 0, Math.min(16, trace.size()) - 1) ? trace.get(i) : NONE;
    }

    int count(int what) {
        if (!in(what, 0, 6)) {
            return BAD;
        }
        int there = 0;
        for (Line l : lines) {
            there += l != null ? 1 : 0;
        }
        int alive = 0;
        for (int i = 0; world != null && i < world.people.size(); i++) {
            alive |= world.people.get(i).alive() ? 1 << i : 0;
        }
        int[] answers = {there, world == null ? 0 : world.stones.size(), world == null ? 0 : world.people.size(),
            world == null ? 0 : world.year, alive, past.size(), tape.size()};
        return answers[what];
    }

    int status() {
        return status;
    }
}
