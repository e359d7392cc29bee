import java.math.BigInteger;
import java.util.ArrayList;
import java.util.Arrays;
import java.util.List;
import java.util.function.Consumer;
import java.util.function.ToIntFunction;
import java.util.regex.Matcher;
import java.util.regex.Pattern;

/**
 * The document once more, as word for word as Java lets it be, with all of the library and no thought of room:
 * ModelTest asks it and ScandalCounter the same calls.
 */
public final class Model {
    static class Person {
        int owed;
        int build = 20;
        int borne;
        int told;

        int felt(int w) {
            return w;
        }

        int asked(int day) {
            return 10;
        }

        int space() {
            return Math.max(0, build - borne);
        }

        int forgotten() {
            return 1;
        }
    }

    static class Lady extends Person {
        @Override int felt(int w) {
            return 2 * super.felt(w);
        }

        @Override int asked(int day) {
            return super.asked(day) - 5;
        }

        @Override int space() {
            return super.space() / 2;
        }

        @Override int forgotten() {
            return 0;
        }
    }

    static class Young extends Lady {
        @Override int felt(int w) {
            return Math.max(0, super.felt(w) - 3);
        }

        @Override int asked(int day) {
            return super.asked(day) + 10;
        }

        @Override int space() {
            return super.space() + 5;
        }

        @Override int forgotten() {
            return super.forgotten() + 1;
        }
    }

    static class Duke extends Person {
        @Override int felt(int w) {
            return super.felt(w) / 2;
        }

        @Override int asked(int day) {
            return super.asked(day) + 10;
        }

        @Override int forgotten() {
            return super.forgotten() + 2;
        }
    }

    static class Clergy extends Duke {
        @Override int felt(int w) {
            return super.felt(w) + 1;
        }

        @Override int asked(int day) {
            return 0;
        }

        @Override int space() {
            return super.space() + build;
        }
    }

    static class Bishop extends Clergy {
        @Override int felt(int w) {
            return super.felt(w) + borne / 10;
        }

        @Override int asked(int day) {
            return day % 7 == 6 ? 3 : super.asked(day);
        }

        @Override int forgotten() {
            return 2 * super.forgotten();
        }
    }

    static class Cowman extends Person {
        @Override int felt(int w) {
            return w < 5 ? 0 : super.felt(w);
        }

        @Override int space() {
            return borne == 0 ? 99 : super.space();
        }
    }

    private static final List<Class<? extends Person>> KINDS = List.of(
            Person.class, Lady.class, Duke.class, Clergy.class, Bishop.class, Cowman.class, Young.class);
    private static final List<String> WORDS = List.of(
            "person", "lady", "duke", "clergy", "bishop", "cowman", "young");

    private static Person made(int kind, Person like) {
        Person p;
        switch (kind) {
            case 1: p = new Lady(); break;
            case 2: p = new Duke(); break;
            case 3: p = new Clergy(); break;
            case 4: p = new Bishop(); break;
            case 5: p = new Cowman(); break;
            case 6: p = new Young(); break;
            default: p = new Person(); break;
        }
        p.owed = like.owed;
        p.build = like.build;
        p.borne = like.borne;
        p.told = like.told;
        return p;
    }

    private static int kindOf(Person p) {
        return KINDS.indexOf(p.getClass());
    }

    static final class World {
        List<Person> people = new ArrayList<>();
        int[] list = new int[6];
        int[] spots = new int[10];
        int hints;
        int day;
        int z = 1;

        World() {
            Arrays.fill(spots, -1);
        }

        World twin() {
            World w = new World();
            people.forEach(p -> w.people.add(made(kindOf(p), p)));
            w.list = list.clone();
            w.spots = spots.clone();
            w.hints = hints;
            w.day = day;
            w.z = z;
            return w;
        }

        int asks(Person p) {
            return Math.min(p.asked(day), p.owed);
        }

        int bearer(int asker, int w) {
            int best = -1;
            for (int i = people.size() - 1; i >= 0; i--) {
                if (i != asker && (best < 0 || people.get(i).space() >= people.get(best).space())) {
                    best = i;
                }
            }
            return best >= 0 && people.get(best).space() >= w ? best : -1;
        }

        void pass(int refusing) {
            int whom = list[day % 6] / 100;
            int weight = list[day % 6] % 100;
            if (whom < people.size() && weight > 0) {
                Person p = people.get(whom);
                p.owed = Math.min(9999, p.owed + p.felt(weight));
                p.borne = Math.min(9999, p.borne + weight);
            }
            for (int i = 0; i < people.size(); i++) {
                Person asker = people.get(i);
                int w = (refusing & 1 << i) != 0 ? 0 : asks(asker);
                if (w > 0) {
                    int on = bearer(i, w);
                    if (on >= 0) {
                        Person other = people.get(on);
                        asker.owed -= w;
                        asker.told = Math.min(9999, asker.told + 1);
                        other.owed = Math.min(9999, other.owed + other.felt(w) / 2);
                        other.borne = Math.min(9999, other.borne + w);
                    } else {
                        asker.owed--;
                        hints = Math.min(99999, hints + 1);
                    }
                }
            }
            people.forEach(p -> p.borne = Math.max(0, p.borne - p.forgotten()));
            day = Math.min(99999, day + 1);
        }

        int sum(ToIntFunction<Person> what) {
            return people.stream().mapToInt(what).sum();
        }

        boolean isEven() {
            return people.stream().allMatch(p -> p.owed == 0);
        }

        int draw() {
            z = z * 1103515245 + 12345;
            return z >>> 8;
        }
    }

    private World w = new World();
    private World kept;
    private String tape = "";
    private final int[][] sheets = new int[4][];
    private final int[] bits = new int[4];
    private final int[] found = new int[7];

    private int finding(int which) {
        found[which]++;
        return -1000001 - which;
    }

    private static final int BEYOND = 0;
    private static final int FULL = 1;
    private static final int KIND = 2;
    private static final int NONE = 3;
    private static final int STATE = 4;
    private static final int MISSING = 5;
    private static final int SIZE = 6;

    private static boolean out(int v, int least, int most) {
        return v < least || v > most;
    }

    private boolean nobody(int person) {
        return out(person, 0, w.people.size() - 1);
    }

    private World later(Consumer<World> change, int n) {
        World t = w.twin();
        change.accept(t);
        for (int i = 0; i < n; i++) {
            t.pass(0);
        }
        return t;
    }

    public int say(int i, int whom, int weight) {
        if (out(i, 0, 5) || out(whom, 0, 7) || out(weight, 0, 20)) return finding(BEYOND);
        int was = w.list[i];
        w.list[i] = 100 * whom + weight;
        return was;
    }

    public int said(int i) {
        return out(i, 0, 5) ? finding(BEYOND) : w.list[i];
    }

    public int person(int kind, int build) {
        if (out(kind, 0, 6) || out(build, 0, 99)) return finding(BEYOND);
        if (w.people.size() == 8) return finding(FULL);
        Person p = made(kind, new Person());
        p.build = build;
        w.people.add(p);
        return w.people.size() - 1;
    }

    public int of(int person, int what) {
        if (nobody(person) || out(what, 0, 7)) return finding(BEYOND);
        Person p = w.people.get(person);
        return new int[] {kindOf(p), p.owed, p.build, p.borne, p.told, w.asks(p), p.space(), p.forgotten()}[what];
    }

    public int change(int person, int what, int v) {
        if (nobody(person) || out(what, 0, 4)) return finding(BEYOND);
        if (out(v, 0, new int[] {6, 9999, 99, 9999, 9999}[what])) return finding(BEYOND);
        Person p = w.people.get(person);
        int was = new int[] {kindOf(p), p.owed, p.build, p.borne, p.told}[what];
        if (what == 0) w.people.set(person, made(v, p));
        if (what == 1) p.owed = v;
        if (what == 2) p.build = v;
        if (what == 3) p.borne = v;
        if (what == 4) p.told = v;
        return was;
    }

    public int feels(int person, int weight) {
        return nobody(person) || out(weight, 0, 20) ? finding(BEYOND) : w.people.get(person).felt(weight);
    }

    public int bearer(int person, int weight) {
        if (nobody(person) || out(weight, 1, 20)) return finding(BEYOND);
        int on = w.bearer(person, weight);
        return on < 0 ? finding(NONE) : on;
    }

    public int go(int n) {
        if (out(n, 1, 60)) return finding(BEYOND);
        if (w.day + n > 99999) return finding(STATE);
        w = later(t -> { }, n);
        return w.sum(p -> p.owed);
    }

    public int now(int what) {
        if (out(what, 0, 7)) return finding(BEYOND);
        int set = 0;
        for (int i = 0; i < w.people.size(); i++) {
            set += w.people.get(i).owed > 0 ? 1 << i : 0;
        }
        return new int[] {w.day, w.sum(p -> p.owed), w.sum(p -> p.borne), w.hints, set, w.bearer(-1, 0),
            w.sum(p -> p.told), w.isEven() ? 1 : 0}[what];
    }

    public int ahead(int person, int what, int n) {
        if (nobody(person) || what != 1 && what != 3 && what != 4 || out(n, 0, 100)) return finding(BEYOND);
        Person p = later(t -> { }, n).people.get(person);
        return what == 1 ? p.owed : what == 3 ? p.borne : p.told;
    }

    public int hints(int n) {
        return out(n, 0, 100) ? finding(BEYOND) : later(t -> { }, n).hints;
    }

    public int even() {
        World t = w.twin();
        int days = 0;
        while (!t.isEven() && days <= 200) {
            t.pass(0);
            days++;
        }
        return days > 200 ? finding(NONE) : days;
    }

    public int when(int person, int v) {
        if (nobody(person) || out(v, 0, 9999)) return finding(BEYOND);
        World t = w.twin();
        int days = 0;
        while (t.people.get(person).borne < v && days <= 200) {
            t.pass(0);
            days++;
        }
        return days > 200 ? finding(NONE) : days;
    }

    public int clean(int person) {
        if (nobody(person)) return finding(BEYOND);
        World t = w.twin();
        int days = 0;
        while (t.people.get(person).borne > 0 && days <= 200) {
            t.pass(0);
            days++;
        }
        return days > 200 ? finding(NONE) : days;
    }

    public int whom(int n) {
        if (out(n, 0, 40)) return finding(BEYOND);
        if (w.people.isEmpty()) return finding(NONE);
        int[] owed = new int[w.people.size()];
        for (int i = 0; i < owed.length; i++) {
            int whom = i;
            owed[i] = later(t -> t.list[t.day % 6] = 100 * whom + t.list[t.day % 6] % 100, n).sum(p -> p.owed);
        }
        int least = Arrays.stream(owed).min().getAsInt();
        return Arrays.stream(owed).boxed().toList().indexOf(least);
    }

    private static void setWeight(World t, int weight) {
        t.list[t.day % 6] = t.list[t.day % 6] / 100 * 100 + weight;
    }

    public int weightFor(int n) {
        if (out(n, 1, 40)) return finding(BEYOND);
        int best = -1;
        for (int weight = 0; weight <= 20; weight++) {
            World t = w.twin();
            setWeight(t, weight);
            for (int i = 0; i < n; i++) {
                t.pass(0);
                best = t.isEven() ? weight : best;
            }
        }
        return best < 0 ? finding(NONE) : best;
    }

    public int buildFor(int person, int n) {
        if (nobody(person) || out(n, 0, 40)) return finding(BEYOND);
        for (int build = 0; build < 100; build++) {
            int b = build;
            if (later(t -> t.people.get(person).build = b, n).hints == w.hints) return build;
        }
        return finding(NONE);
    }

    public int kindFor(int person, int n) {
        if (nobody(person) || out(n, 0, 40)) return finding(BEYOND);
        int[] borne = new int[7];
        for (int kind = 0; kind < 7; kind++) {
            int k = kind;
            borne[kind] = later(t -> t.people.set(person, made(k, t.people.get(person))), n).people.get(person).borne;
        }
        int least = Arrays.stream(borne).min().getAsInt();
        return Arrays.stream(borne).boxed().toList().indexOf(least);
    }

    public int refuse(int person, int v, int n) {
        if (nobody(person) || out(v, 0, 9999) || out(n, 0, 20)) return finding(BEYOND);
        int best = -1;
        for (int set = 0; set < 1 << w.people.size(); set++) {
            if ((set & 1 << person) != 0) continue;
            World t = w.twin();
            for (int i = 0; i < n; i++) {
                t.pass(set);
            }
            if (t.people.get(person).borne <= v && (best < 0 || Integer.bitCount(set) < Integer.bitCount(best))) {
                best = set;
            }
        }
        return best < 0 ? finding(NONE) : best;
    }

    public int swapFor(int n) {
        if (out(n, 0, 40)) return finding(BEYOND);
        int best = -1;
        int fewest = 0;
        for (int a = 0; a < w.people.size(); a++) {
            for (int b = a + 1; b < w.people.size(); b++) {
                World t = w.twin();
                int build = t.people.get(a).build;
                t.people.get(a).build = t.people.get(b).build;
                t.people.get(b).build = build;
                for (int i = 0; i < n; i++) {
                    t.pass(0);
                }
                if (best < 0 || t.hints < fewest) {
                    best = 8 * a + b;
                    fewest = t.hints;
                }
            }
        }
        return best < 0 ? finding(NONE) : best;
    }

    private int asked(int s, int person) {
        return out(s, 0, 3) ? BEYOND : sheets[s] == null ? MISSING : nobody(person) ? BEYOND : -1;
    }

    private boolean follows(World t, int s, int person, ToIntFunction<Person> what) {
        boolean so = true;
        for (int told : sheets[s]) {
            so &= told == -1 || told == what.applyAsInt(t.people.get(person));
            t.pass(0);
        }
        return so;
    }

    private List<Integer> fitting(int s, int person) {
        List<Integer> weights = new ArrayList<>();
        for (int weight = 0; weight <= 20; weight++) {
            World t = w.twin();
            setWeight(t, weight);
            if (follows(t, s, person, p -> p.borne)) weights.add(weight);
        }
        return weights;
    }

    public int fits(int s, int person) {
        int f = asked(s, person);
        return f >= 0 ? finding(f) : fitting(s, person).size();
    }

    public int weighed(int s, int person) {
        int f = asked(s, person);
        if (f >= 0) return finding(f);
        List<Integer> weights = fitting(s, person);
        return weights.isEmpty() ? finding(NONE) : weights.get(0);
    }

    public int kinds(int s, int person) {
        int f = asked(s, person);
        if (f >= 0) return finding(f);
        int set = 0;
        for (int kind = 0; kind < 7; kind++) {
            World t = w.twin();
            t.people.set(person, made(kind, t.people.get(person)));
            set += follows(t, s, person, p -> p.owed) ? 1 << kind : 0;
        }
        return set;
    }

    public int gossip(int n) {
        if (out(n, 1, 20)) return finding(BEYOND);
        if (w.day + n > 99999) return finding(STATE);
        for (int i = 0; i < n; i++) {
            int whom = w.draw() % 8;
            w.list[w.day % 6] = 100 * whom + w.draw() % 21;
            w.pass(0);
        }
        return w.sum(p -> p.owed);
    }

    public long odds(int n, int what) {
        if (out(n, 0, 20) || out(what, 0, 1)) return finding(BEYOND);
        long with = w.people.stream().filter(p -> p.space() > 0).count();
        BigInteger above = BigInteger.valueOf(with).pow(n);
        BigInteger below = BigInteger.valueOf(8).pow(n);
        return (what == 0 ? above : below).divide(above.gcd(below)).longValueExact();
    }

    public int seed(int v) {
        int was = w.z;
        w.z = v;
        return was;
    }

    public int feed(int bytes, int n) {
        if (out(n, 1, 4)) return finding(BEYOND);
        if (tape.length() + n > 120) return finding(FULL);
        StringBuilder more = new StringBuilder();
        for (int i = 0; i < n; i++) {
            more.insert(0, (char) (bytes >> 8 * i & 255));
        }
        tape += more;
        return tape.length();
    }

    public int wipe() {
        int had = tape.length();
        tape = "";
        return had;
    }

    private List<String> tokens;
    private List<Integer> places;
    private int at;

    public int text() {
        tokens = new ArrayList<>();
        places = new ArrayList<>();
        Matcher m = Pattern.compile("[a-z]+|[0-9]+|[^ ]", Pattern.DOTALL).matcher(tape);
        while (m.find()) {
            tokens.add(m.group());
            places.add(m.start());
        }
        tokens.add("");
        places.add(tape.length());
        tape = "";
        at = 0;
        World t = w.twin();
        int items = 0;
        do {
            items++;
            if (!item(t)) return -1 - places.get(at);
        } while (took(";"));
        if (!tokens.get(at).isEmpty()) return -1 - places.get(at);
        w = t;
        return items;
    }

    private boolean took(String token) {
        boolean so = tokens.get(at).equals(token);
        at += so ? 1 : 0;
        return so;
    }

    private int number;

    private boolean tookNumber(int most) {
        String token = tokens.get(at);
        if (!token.matches("[0-9]+") || new BigInteger(token).compareTo(BigInteger.valueOf(most)) > 0) return false;
        number = Integer.parseInt(token.replaceFirst("^0+(?=.)", ""));
        at++;
        return true;
    }

    private boolean item(World t) {
        if (took("hints")) {
            if (!tookNumber(9999)) return false;
            t.hints = number;
            return true;
        }
        if (took("said")) {
            if (!tookNumber(5)) return false;
            int i = number;
            if (!tookNumber(7)) return false;
            int whom = number;
            if (!tookNumber(20)) return false;
            t.list[i] = 100 * whom + number;
            return true;
        }
        int kind = WORDS.indexOf(tokens.get(at));
        if (kind < 0 || t.people.size() == 8) return false;
        at++;
        Person p = made(kind, new Person());
        t.people.add(p);
        if (took("build")) {
            if (!tookNumber(99)) return false;
            p.build = number;
        }
        if (took("owed")) {
            if (!tookNumber(9999)) return false;
            p.owed = number;
        }
        if (took("bore")) {
            if (!tookNumber(9999)) return false;
            p.borne = number;
        }
        return true;
    }

    public int hold(int spot, int person) {
        if (out(spot, 0, 9) || person != -1 && nobody(person)) return finding(BEYOND);
        w.spots[spot] = person;
        return 1;
    }

    public int as(int spot, int kind) {
        if (out(spot, 0, 9) || out(kind, 0, 6)) return finding(BEYOND);
        if (w.spots[spot] < 0) return finding(MISSING);
        return KINDS.get(kind).isInstance(w.people.get(w.spots[spot])) ? w.spots[spot] : finding(KIND);
    }

    public int sheet(int s, int newBits, int n) {
        if (out(s, 0, 3) || !List.of(0, 8, 16, 32).contains(newBits)) return finding(BEYOND);
        if (n < 0) return finding(SIZE);
        if (n > 40) return finding(BEYOND);
        bits[s] = newBits;
        sheets[s] = newBits == 0 ? null : new int[n];
        return newBits == 0 ? 0 : n;
    }

    public int write(int s, int i, int v) {
        if (out(s, 0, 3)) return finding(BEYOND);
        if (sheets[s] == null) return finding(MISSING);
        if (out(i, 0, sheets[s].length - 1)) return finding(BEYOND);
        sheets[s][i] = bits[s] == 8 ? (byte) v : bits[s] == 16 ? (short) v : v;
        return 1;
    }

    public int copy(int s, int from, int t, int to, int n) {
        if (out(s, 0, 3) || out(t, 0, 3)) return finding(BEYOND);
        if (sheets[s] == null || sheets[t] == null) return finding(MISSING);
        if (bits[s] != bits[t]) return finding(KIND);
        if (from < 0 || to < 0 || n < 0) return finding(BEYOND);
        if ((long) from + n > sheets[s].length || (long) to + n > sheets[t].length) return finding(BEYOND);
        int[] all = sheets[s].clone();
        for (int i = 0; i < n; i++) {
            sheets[t][to + i] = all[from + i];
        }
        return n;
    }

    public int load(int s) {
        if (out(s, 0, 3)) return finding(BEYOND);
        if (sheets[s] == null) return finding(MISSING);
        int came = 0;
        while (came < 6 && came < sheets[s].length) {
            int v = sheets[s][came];
            if (v < 0 || v / 100 > 7 || v % 100 > 20) break;
            w.list[came++] = v;
        }
        return came;
    }

    public int judge(int s) {
        if (out(s, 0, 3)) return finding(BEYOND);
        if (sheets[s] == null) return finding(MISSING);
        for (int i = 0; i < sheets[s].length; i++) {
            if (nobody(i) || w.people.get(i).owed != sheets[s][i]) return 1 + i;
        }
        return 0;
    }

    public int image() {
        kept = w.twin();
        return 1;
    }

    public int undo() {
        if (kept == null) return finding(NONE);
        w = kept.twin();
        return w.day;
    }

    public int tear() {
        int was = kept == null ? 0 : 1;
        kept = null;
        return was;
    }

    public int count(int what) {
        if (out(what, 0, 7)) return finding(BEYOND);
        return new int[] {w.day, w.people.size(), w.sum(p -> p.owed), w.sum(p -> p.borne), w.hints, tape.length(), w.z,
            (int) Arrays.stream(w.spots).filter(p -> p >= 0).count()}[what];
    }

    public int status(int which) {
        if (which == -1) return Arrays.stream(found).sum();
        return out(which, 0, 6) ? finding(BEYOND) : found[which];
    }
}
