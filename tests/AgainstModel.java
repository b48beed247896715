import java.math.BigInteger;
import java.util.ArrayList;
import java.util.Arrays;
import java.util.List;
import java.util.Random;

/** Random runs of calls, ordinary and wild, against a second, slow writing of the document. */
public final class AgainstModel {
    static final int RUNS = 600, CALLS = 512;

    static final class Person {
        int kind, a, age, noes, had;
        Person(int kind, int a, int age, int noes) {
            this.kind = kind; this.a = a; this.age = age; this.noes = noes;
        }
        Person copy() {
            Person c = new Person(kind, a, age, noes);
            c.had = had;
            return c;
        }
    }

    static final class Proposal {
        int weight;
        List<Integer> worth = new ArrayList<>();
        Proposal copy() {
            Proposal c = new Proposal();
            c.weight = weight;
            c.worth.addAll(worth);
            return c;
        }
    }

    static final class Fraction {
        final BigInteger top, below;
        Fraction(BigInteger top, BigInteger below) {
            BigInteger g = top.gcd(below);
            this.top = top.divide(g);
            this.below = below.divide(g);
        }
        static Fraction of(long v) { return new Fraction(BigInteger.valueOf(v), BigInteger.ONE); }
        Fraction plus(Fraction o) {
            return new Fraction(top.multiply(o.below).add(o.top.multiply(below)), below.multiply(o.below));
        }
        Fraction times(long up, long down) {
            return new Fraction(top.multiply(BigInteger.valueOf(up)), below.multiply(BigInteger.valueOf(down)));
        }
        int compare(Fraction o) { return top.multiply(o.below).compareTo(o.top.multiply(below)); }
        long part(int part) { return part == 0 ? top.longValueExact() : below.longValueExact(); }
    }

    static final class State {
        List<Person> people = new ArrayList<>();
        List<Proposal> proposals = new ArrayList<>();
        int need = 1, turn = 0, grow = 0, year = 1, z = 1, fell = 0, passed = 0;

        State copy() {
            State c = new State();
            for (Person p : people) c.people.add(p.copy());
            for (Proposal q : proposals) c.proposals.add(q.copy());
            c.need = need; c.turn = turn; c.grow = grow; c.year = year; c.z = z; c.fell = fell; c.passed = passed;
            return c;
        }

        boolean wouldOne(int q, int p) {
            Person him = people.get(p);
            List<Integer> worth = proposals.get(q).worth;
            if (him.noes == 0) return false;
            if (him.kind == 0) return false;
            if (him.kind == 1) return worth.get(p) < 0;
            if (him.kind == 2) return worth.get(p) + him.a < 0;
            if (him.kind == 3) {
                for (int o = 0; o < people.size(); o++) {
                    if (o != p && people.get(o).noes > 0 && worth.get(o) < worth.get(p)) return false;
                }
                return worth.get(p) + him.a < 0;
            }
            if (him.kind == 4) {
                List<Person> league = new ArrayList<>();
                for (Person o : people) if (o.kind == 4 && o.noes > 0) league.add(o);
                return worth.get(p) < 0 && league.get(year % league.size()) == him;
            }
            return ((him.a >> q) & 1) != 0;
        }

        /** forced: a person who says no (1), or doesn't (0), whatever his kind; -1: none is forced. */
        boolean[] sayers(int q, int forced, boolean no) {
            List<Integer> asked = new ArrayList<>();
            for (int p = 0; p < people.size(); p++) asked.add(p);
            if (turn == 1) asked.sort((x, y) -> people.get(y).age - people.get(x).age);
            boolean[] says = new boolean[people.size()];
            int said = 0;
            for (int p : asked) {
                boolean his = p == forced ? no : wouldOne(q, p);
                if (his && !(turn == 1 && said >= need)) {
                    says[p] = true;
                    said++;
                }
            }
            return says;
        }

        boolean come(int q, int forced, boolean no) {
            boolean[] says = sayers(q, forced, no);
            int said = 0;
            for (int p = 0; p < says.length; p++) {
                if (says[p]) {
                    people.get(p).noes--;
                    said++;
                }
            }
            boolean falls = said >= need;
            if (falls) fell++;
            else {
                passed++;
                for (int p = 0; p < says.length; p++) people.get(p).had += proposals.get(q).worth.get(p);
            }
            if (grow > 0 && year % grow == 0) {
                for (Person p : people) if (p.noes == 0) p.noes = 1;
            }
            year++;
            return falls;
        }

        int weights() {
            int all = 0;
            for (Proposal q : proposals) all += q.weight;
            return all;
        }

        int draw() {
            z = z * 1103515245 + 12345;
            int rest = (z >>> 16) % weights();
            for (int q = 0; ; q++) {
                rest -= proposals.get(q).weight;
                if (rest < 0) return q;
            }
        }

        Fraction value(int p, int n) {
            Fraction all = Fraction.of(0);
            if (n == 0 || weights() == 0) return all;
            for (int q = 0; q < proposals.size(); q++) {
                State next = copy();
                boolean falls = next.come(q, -1, false);
                Fraction one = next.value(p, n - 1).plus(Fraction.of(falls ? 0 : proposals.get(q).worth.get(p)));
                all = all.plus(one.times(proposals.get(q).weight, weights()));
            }
            return all;
        }

        Fraction spoilt(int n) {
            Fraction all = Fraction.of(0);
            if (n == 0 || weights() == 0) return all;
            for (int q = 0; q < proposals.size(); q++) {
                int notLiked = 0;
                for (int w : proposals.get(q).worth) if (w <= 0) notLiked++;
                State next = copy();
                boolean falls = next.come(q, -1, false);
                Fraction one = next.spoilt(n - 1).plus(Fraction.of(falls && notLiked == 1 ? 1 : 0));
                all = all.plus(one.times(proposals.get(q).weight, weights()));
            }
            return all;
        }

        Fraction best(int p, int n) {
            Fraction all = Fraction.of(0);
            if (n == 0 || weights() == 0) return all;
            for (int q = 0; q < proposals.size(); q++) {
                Fraction one = choice(p, q, n - 1, false);
                if (people.get(p).noes > 0) {
                    Fraction other = choice(p, q, n - 1, true);
                    if (other.compare(one) > 0) one = other;
                }
                all = all.plus(one.times(proposals.get(q).weight, weights()));
            }
            return all;
        }

        Fraction choice(int p, int q, int behind, boolean no) {
            State next = copy();
            boolean falls = next.come(q, p, no);
            return next.best(p, behind).plus(Fraction.of(falls ? 0 : proposals.get(q).worth.get(p)));
        }

        int bar(int p, int n) {
            int best = 0;
            Fraction most = null;
            for (int a = 0; a < 10; a++) {
                State other = copy();
                other.people.get(p).kind = 2;
                other.people.get(p).a = a;
                Fraction is = other.value(p, n);
                if (most == null || is.compare(most) > 0) {
                    most = is;
                    best = a;
                }
            }
            return best;
        }

        int harm(int n) {
            int best = 0;
            Fraction most = null;
            for (int law : new int[] {1, 2, 3, 11, 12, 13}) {
                State other = copy();
                other.turn = law / 10;
                other.need = law % 10;
                Fraction is = Fraction.of(0);
                for (int p = 0; p < people.size(); p++) is = is.plus(other.value(p, n));
                if (most == null || is.compare(most) > 0) {
                    most = is;
                    best = law;
                }
            }
            return best;
        }

        List<Integer> lets(int told) {
            int count = proposals.size();
            for (int k = 0, rows = 1; k <= 3; k++, rows *= count) {
                for (int r = 0; r < rows; r++) {
                    State next = copy();
                    List<Integer> row = new ArrayList<>();
                    for (int i = 0, rest = r; i < k; i++, rest /= count) row.add(0, rest % count);
                    for (int q : row) next.come(q, -1, false);
                    if (!next.come(told, -1, false)) return row;
                }
            }
            return null;
        }

        int[][] rows(int n) {
            State next = copy();
            int[][] rows = new int[n][];
            for (int i = 0; i < n; i++) {
                int q = next.draw();
                int set = bits(next.sayers(q, -1, false));
                rows[i] = new int[] {q, set, next.come(q, -1, false) ? 1 : 0};
            }
            return rows;
        }
    }

    static int bits(boolean[] set) {
        int bits = 0;
        for (int i = 0; i < set.length; i++) if (set[i]) bits += 1 << i;
        return bits;
    }

    static final class Fault extends RuntimeException {
        static final long serialVersionUID = 1;
        final int place;
        Fault(int place) { this.place = place; }
    }

    /** Parts the text first, then goes over the parts. */
    static final class Parser {
        final List<String> parts = new ArrayList<>();
        final List<Integer> places = new ArrayList<>();
        final State made = new State();
        int next = 0;

        Parser(String text) {
            java.util.regex.Matcher m = java.util.regex.Pattern.compile("[a-z]+|[0-9]+|[^ ]", java.util.regex.Pattern.DOTALL).matcher(text);
            while (m.find()) {
                parts.add(m.group());
                places.add(m.start());
            }
            parts.add("");
            places.add(text.length());
        }

        String peek() { return parts.get(next); }
        Fault fault() { return new Fault(places.get(next)); }
        boolean take(String part) {
            if (!peek().equals(part)) return false;
            next++;
            return true;
        }
        void must(String part) { if (!take(part)) throw fault(); }
        int number(int least, int most) {
            if (!peek().matches("[0-9]{1,3}")) throw fault();
            int v = Integer.parseInt(peek());
            if (v < least || v > most) throw fault();
            next++;
            return v;
        }

        State parse() {
            List<String> kinds = Arrays.asList("sayer", "quick", "bar", "wait", "league", "told");
            while (!peek().isEmpty()) {
                int kind = kinds.indexOf(peek());
                if (kind >= 0) {
                    if (made.people.size() == 6) throw fault();
                    next++;
                    must("age");
                    int age = number(0, 99);
                    int a = take("bar") ? number(0, 255) : 0;
                    int noes = take("noes") ? number(0, 9) : 1;
                    made.people.add(new Person(kind, a, age, noes));
                } else if (peek().equals("proposal")) {
                    if (made.proposals.size() == 8) throw fault();
                    next++;
                    Proposal q = new Proposal();
                    q.weight = number(0, 9);
                    if (take("worth")) {
                        do {
                            if (q.worth.size() == made.people.size()) throw fault();
                            boolean minus = take("-");
                            int v = number(0, 9);
                            q.worth.add(minus ? -v : v);
                        } while (take(","));
                    }
                    made.proposals.add(q);
                } else if (take("need")) made.need = number(1, 3);
                else if (take("turn")) made.turn = 1;
                else if (take("grow")) made.grow = number(0, 20);
                else throw fault();
                must(";");
            }
            for (Proposal q : made.proposals) while (q.worth.size() < made.people.size()) q.worth.add(0);
            return made;
        }
    }

    static final class Parted extends RuntimeException {
        static final long serialVersionUID = 1;
    }

    /** A row as the host holds it: another one each time that a sheet becomes one. */
    static final class Row {
        final int sort;
        final int[] items;
        Row(int sort, int n) { this.sort = sort; items = new int[n]; }
    }

    static final class Model {
        State v = new State();
        State kept = null;
        StringBuilder tape = new StringBuilder();
        List<int[]> rows = new ArrayList<>();
        Row[] sheets = new Row[4];
        Object[] shelves = new Object[4];
        List<Integer> trace = new ArrayList<>();
        int self, selfN, selfA;

        boolean badPerson(int p) { return p < 0 || p >= v.people.size(); }
        boolean badProposal(int q) { return q < 0 || q >= v.proposals.size(); }
        static boolean out(int v, int least, int most) { return v < least || v > most; }

        static int over(int kind) { return new int[] {-1, 0, 0, 2, 1, 0}[kind]; }

        /** The body of an act that a kind has of its own or from the kind it is under. */
        int run(int kind, int act, int x) {
            int n = selfN, a = selfA;
            switch (kind * 10 + act) {
                case 0: trace.add(10); return x + n;
                case 1: trace.add(11); return run(self, 0, x) * 2;
                case 2: trace.add(12); if (a == n) throw new Parted(); return x / (a - n);
                case 3: trace.add(13); return run(self, 1, x) ^ a;
                case 11: trace.add(20); return run(0, 1, x) - a;
                case 20: trace.add(30); return run(0, 0, x) * 3;
                case 23: { trace.add(31); int left = run(0, 3, x); return left + run(self, 2, n); }
                case 30: trace.add(40); return -run(2, 0, x);
                case 31: { trace.add(41); int left = run(2, 1, x); return left + run(self, 0, n); }
                case 42: trace.add(50); return run(1, 2, x + 2) ^ 1;
                case 40: trace.add(51); return run(1, 0, x) - n;
                case 53: trace.add(60); return run(0, 3, x) * 2;
                case 52: { trace.add(61); int left = run(0, 2, x); return left + run(self, 0, a); }
                default: return run(over(kind), act, x);
            }
        }

        Object onShelf(int shelf) {
            Object o = shelves[shelf];
            if (o instanceof Integer && badPerson((Integer) o)) return null;
            return o;
        }

        int feed(long eight, int n) {
            if (out(n, 1, 8)) return -1;
            if (tape.length() + n > 240) return -2;
            for (int i = 0; i < n; i++, eight >>= 8) tape.append((char) (eight & 255));
            return tape.length();
        }
        int village() {
            String text = tape.toString();
            tape.setLength(0);
            try {
                State made = new Parser(text).parse();
                made.z = v.z;
                v = made;
            } catch (Fault f) {
                return -100 - f.place;
            }
            rows.clear();
            return v.people.size();
        }
        int person(int kind, int a, int age, int noes) {
            if (out(kind, 0, 5) || out(a, 0, 255) || out(age, 0, 99) || out(noes, 0, 9)) return -1;
            if (v.people.size() == 6) return -2;
            v.people.add(new Person(kind, a, age, noes));
            for (Proposal q : v.proposals) q.worth.add(0);
            return v.people.size() - 1;
        }
        int personOf(int p, int what) {
            if (badPerson(p) || out(what, 0, 3)) return -1;
            Person h = v.people.get(p);
            return new int[] {h.kind, h.a, h.age, h.noes}[what];
        }
        int leave(int p) {
            if (badPerson(p)) return -1;
            v.people.remove(p);
            for (Proposal q : v.proposals) q.worth.remove(p);
            return v.people.size();
        }
        int mind(int p, int kind, int a) {
            if (badPerson(p) || out(kind, 0, 5) || out(a, 0, 255)) return -1;
            int was = v.people.get(p).kind;
            v.people.get(p).kind = kind;
            v.people.get(p).a = a;
            return was;
        }
        int give(int p, int q) {
            if (badPerson(p) || badPerson(q) || p == q) return -1;
            if (v.people.get(p).noes == 0) return -3;
            if (v.people.get(q).noes == 9) return -2;
            v.people.get(p).noes--;
            return ++v.people.get(q).noes;
        }
        int noes(int p, int n) {
            if (badPerson(p) || out(n, 0, 9)) return -1;
            int was = v.people.get(p).noes;
            v.people.get(p).noes = n;
            return was;
        }
        int proposal(int weight) {
            if (out(weight, 0, 9)) return -1;
            if (v.proposals.size() == 8) return -2;
            Proposal q = new Proposal();
            q.weight = weight;
            for (int i = 0; i < v.people.size(); i++) q.worth.add(0);
            v.proposals.add(q);
            return v.proposals.size() - 1;
        }
        int weigh(int q, int w) {
            if (badProposal(q) || out(w, 0, 9)) return -1;
            int was = v.proposals.get(q).weight;
            v.proposals.get(q).weight = w;
            return was;
        }
        int worth(int q, int p, int w) {
            if (badProposal(q) || badPerson(p) || out(w, -9, 9)) return -1;
            return v.proposals.get(q).worth.set(p, w) + 10;
        }
        int proposalOf(int q, int p) {
            if (badProposal(q) || p != -1 && badPerson(p)) return -1;
            return p == -1 ? v.proposals.get(q).weight : v.proposals.get(q).worth.get(p) + 10;
        }
        int set(int law, int w) {
            int was = law(law);
            if (law == 0 && !out(w, 1, 3)) v.need = w;
            else if (law == 1 && !out(w, 0, 1)) v.turn = w;
            else if (law == 2 && !out(w, 0, 20)) v.grow = w;
            else return -1;
            return was;
        }
        int law(int law) {
            if (out(law, 0, 3)) return -1;
            return new int[] {v.need, v.turn, v.grow, v.year}[law];
        }
        int would(int q) {
            if (badProposal(q)) return -1;
            boolean[] set = new boolean[v.people.size()];
            for (int p = 0; p < set.length; p++) set[p] = v.wouldOne(q, p);
            return bits(set);
        }
        int says(int q) { return badProposal(q) ? -1 : bits(v.sayers(q, -1, false)); }
        int comes(int q) {
            if (badProposal(q)) return -1;
            if (v.year == 999) return -4;
            return v.come(q, -1, false) ? 1 : 0;
        }
        int lot() {
            if (v.weights() == 0) return -3;
            if (v.year == 999) return -4;
            int q = v.draw();
            v.come(q, -1, false);
            return q;
        }
        int had(int p) { return badPerson(p) ? -1 : v.people.get(p).had + 100000; }
        int seed(int z) {
            int was = v.z;
            v.z = z;
            return was;
        }
        static final long NO = -1000000000000L;
        long value(int p, int n, int part) {
            return badPerson(p) || out(n, 0, 3) || out(part, 0, 1) ? NO : v.value(p, n).part(part);
        }
        long best(int p, int n, int part) {
            return badPerson(p) || out(n, 0, 3) || out(part, 0, 1) ? NO : v.best(p, n).part(part);
        }
        int should(int p, int q, int n) {
            if (badPerson(p) || badProposal(q) || out(n, 0, 2)) return -1;
            if (v.people.get(p).noes == 0) return -3;
            return v.choice(p, q, n, true).compare(v.choice(p, q, n, false)) > 0 ? 1 : 0;
        }
        int barOf(int p, int n) { return badPerson(p) || out(n, 1, 2) ? -1 : v.bar(p, n); }
        int lets(int q, int what) {
            if (badProposal(q) || out(what, 0, 1)) return -1;
            List<Integer> row = v.lets(q);
            if (row == null) return -3;
            if (what == 0) return row.size();
            int digits = 0;
            for (int i = 0, place = 1; i < row.size(); i++, place *= 8) digits += row.get(i) * place;
            return digits;
        }
        int harm(int n) { return out(n, 1, 2) ? -1 : v.harm(n); }
        long spoilt(int n, int part) { return out(n, 0, 3) || out(part, 0, 1) ? -1 : v.spoilt(n).part(part); }
        int prove(int n) {
            if (out(n, 1, 12)) return -1;
            if (v.weights() == 0) return -3;
            rows = new ArrayList<>(Arrays.asList(v.rows(n)));
            return n;
        }
        int row(int i, int what) { return out(i, 0, rows.size() - 1) || out(what, 0, 2) ? -9 : rows.get(i)[what]; }
        int alterRow(int i, int what, int w) {
            int was = row(i, what);
            if (!out(i, 0, rows.size() - 1) && !out(what, 0, 2)) rows.get(i)[what] = w;
            return was;
        }
        int judge() {
            if (v.weights() == 0) return -3;
            int[][] due = v.rows(rows.size());
            for (int i = 0; i < due.length; i++) if (!Arrays.equals(due[i], rows.get(i))) return i + 1;
            return 0;
        }
        int worths(int q, int s) {
            if (badProposal(q) || out(s, 0, 3)) return -1;
            if (sheets[s] == null) return -11;
            if (sheets[s].sort != 2) return -13;
            int p = 0;
            for (; p < v.people.size() && p < sheets[s].items.length; p++) {
                int w = sheets[s].items[p];
                v.proposals.get(q).worth.set(p, w > 9 ? 9 : w < -9 ? -9 : w);
            }
            return p;
        }
        int sheet(int s, int sort, int n) {
            if (out(s, 0, 3) || out(sort, -1, 3) || sort != -1 && n > 40) return -1;
            if (sort != -1 && n < 0) return -14;
            sheets[s] = sort == -1 ? null : new Row(sort, n);
            return 1;
        }
        int put(int s, int i, int w) {
            if (out(s, 0, 3)) return -1;
            if (sheets[s] == null) return -11;
            if (out(i, 0, sheets[s].items.length - 1)) return -12;
            sheets[s].items[i] = sheets[s].sort == 0 ? (byte) w : sheets[s].sort == 1 ? (short) w : w;
            return 1;
        }
        int item(int s, int sort, int i) {
            if (out(s, 0, 3) || out(sort, 0, 3)) return -1;
            if (sheets[s] == null) return -11;
            if (sheets[s].sort != sort) return -13;
            if (out(i, 0, sheets[s].items.length - 1)) return -12;
            return sheets[s].items[i];
        }
        int shelf(int s, int what, int n) {
            if (out(s, 0, 3) || out(what, 0, 2)) return -1;
            if (what == 0 && badPerson(n) || what == 1 && out(n, 0, 3)) return -1;
            shelves[s] = what == 0 ? (Object) n : what == 1 ? sheets[n] : null;
            return 1;
        }
        int taken(int s, int as) {
            if (out(s, 0, 3) || out(as, 0, 5) && out(as, 10, 13)) return -1;
            Object o = onShelf(s);
            if (o == null) return -11;
            if (o instanceof Row) return ((Row) o).sort + 10 == as ? ((Row) o).items.length : -13;
            for (int kind = v.people.get((Integer) o).kind; kind >= 0; kind = over(kind)) {
                if (kind == as) return (Integer) o;
            }
            return -13;
        }
        int act(int s, int act, int x) {
            trace.clear();
            if (out(s, 0, 3) || out(act, 0, 3) || !(onShelf(s) instanceof Integer)) return 0;
            selfN = (Integer) shelves[s];
            selfA = v.people.get(selfN).a;
            self = v.people.get(selfN).kind;
            try {
                return run(self, act, x);
            } catch (Parted parted) {
                return -15;
            }
        }
        int trace(int i) { return out(i, 0, trace.size() - 1) ? -3 : trace.get(i); }
        int many(int what) {
            int noes = 0;
            for (Person p : v.people) noes += p.noes;
            if (out(what, 0, 7)) return -1;
            return new int[] {v.people.size(), v.proposals.size(), noes, v.fell, v.passed, rows.size(), tape.length(), trace.size()}[what];
        }
        int keep() {
            kept = v.copy();
            return 1;
        }
        int again() {
            if (kept == null) return -3;
            v = kept.copy();
            return v.people.size();
        }
    }

    static final Random chance = new Random(2026);
    static int wrong = 0;

    static int from(int least, int most) {
        if (chance.nextInt(60) == 0) {
            int[] wild = {least - 1, most + 1, Integer.MIN_VALUE, Integer.MAX_VALUE, -1, chance.nextInt(), least - 2, 1 << 16};
            return wild[chance.nextInt(wild.length)];
        }
        return least + chance.nextInt(most - least + 1);
    }

    static String randomText() {
        StringBuilder text = new StringBuilder();
        String[] kinds = {"sayer", "quick", "bar", "wait", "league", "told"};
        int people = chance.nextInt(7);
        for (int i = 0; i < people; i++) {
            text.append(kinds[chance.nextInt(6)]).append(" age ").append(from(0, 99));
            if (chance.nextInt(3) == 0) text.append(" bar ").append(from(0, chance.nextBoolean() ? 3 : 255));
            if (chance.nextInt(3) == 0) text.append(" noes ").append(from(0, 3));
            text.append(";");
        }
        int proposals = chance.nextInt(5);
        for (int i = 0; i < proposals; i++) {
            text.append(" proposal ").append(from(0, 9));
            int worths = people == 0 ? 0 : chance.nextInt(people + 1);
            for (int p = 0; p < worths; p++) text.append(p == 0 ? " worth " : ", ").append(from(-9, 9));
            text.append(";");
        }
        if (chance.nextBoolean()) text.append("need ").append(from(1, 3)).append(" ;");
        if (chance.nextBoolean()) text.append("turn;");
        if (chance.nextBoolean()) text.append("grow ").append(from(0, 20)).append(";");
        int changes = chance.nextInt(3);
        String signs = " ;,-azq09\t{A\u00ff";
        for (int i = 0; i < changes && text.length() > 0; i++) {
            int at = chance.nextInt(text.length());
            char sign = signs.charAt(chance.nextInt(signs.length()));
            switch (chance.nextInt(4)) {
                case 0: text.deleteCharAt(at); break;
                case 1: text.insert(at, sign); break;
                case 2: text.setCharAt(at, sign); break;
                default: text.setLength(at);
            }
        }
        if (text.length() > 240) text.setLength(240);
        return text.toString();
    }

    static void due(int run, int call, String name, long got, long want) {
        if (got == want) return;
        wrong++;
        if (wrong < 50) System.out.println("run " + run + ", call " + call + ": " + name + " answered " + got + ", due is " + want);
    }

    public static void main(String[] args) {
        for (int run = 0; run < RUNS; run++) runOnce(run, run % 3 == 0);
        System.out.println(wrong == 0 ? "the model agrees" : wrong + " answers are not the model's");
        if (wrong != 0) System.exit(1);
    }

    static void runOnce(int run, boolean many) {
        LifeNoes x = new LifeNoes();
        Model m = new Model();
        if (many) {
            for (int i = 0; i < 4; i++) {
                int kind = chance.nextInt(6), a = chance.nextInt(6), age = chance.nextInt(4), noes = 1 + chance.nextInt(3);
                due(run, i, "person", x.person(kind, a, age, noes), m.person(kind, a, age, noes));
            }
        }
        for (int call = 0; call < CALLS; call++) {
            if (chance.nextInt(40) == 0) {
                String text = randomText();
                for (int i = 0; i < text.length(); i += 8) {
                    long eight = 0;
                    int n = Math.min(8, text.length() - i);
                    for (int j = 0; j < n; j++) eight |= (long) text.charAt(i + j) << (8 * j);
                    due(run, call, "feed", x.feed(eight, n), m.feed(eight, n));
                }
                due(run, call, "village of " + text, x.village(), m.village());
            }
            one(run, call, x, m);
        }
    }

    static int p() { return from(0, 5); }
    static int q() { return from(0, 4); }

    static void one(int run, int c, LifeNoes x, Model m) {
        int p = p(), p2 = p(), q = q(), v = from(-9, 9), kind = from(0, 5), n = from(0, 3), part = from(0, 1);
        int a = chance.nextInt(4) == 0 ? from(0, 255) : from(0, 6), any = chance.nextBoolean() ? chance.nextInt() : from(-20, 20);
        int shelf = from(0, 3), act = from(0, 3), item = from(0, 7), weight = from(0, 9), noes = from(0, 3);
        switch (chance.nextInt(60)) {
            case 0: { long e = chance.nextLong(); int k = from(1, 8); due(run, c, "feed", x.feed(e, k), m.feed(e, k)); break; }
            case 1: if (chance.nextInt(9) == 0) due(run, c, "village", x.village(), m.village()); break;
            case 2: case 3: { int age = from(0, 99); due(run, c, "person", x.person(kind, a, age, noes), m.person(kind, a, age, noes)); break; }
            case 4: due(run, c, "personOf", x.personOf(p, act), m.personOf(p, act)); break;
            case 5: due(run, c, "leave", x.leave(p), m.leave(p)); break;
            case 6: due(run, c, "mind", x.mind(p, kind, a), m.mind(p, kind, a)); break;
            case 7: due(run, c, "give", x.give(p, p2), m.give(p, p2)); break;
            case 8: case 9: { int k = from(0, 9); due(run, c, "noes", x.noes(p, k), m.noes(p, k)); break; }
            case 10: if (m.v.proposals.size() < 4 || chance.nextInt(20) == 0) due(run, c, "proposal", x.proposal(weight), m.proposal(weight)); break;
            case 11: due(run, c, "weigh", x.weigh(q, weight), m.weigh(q, weight)); break;
            case 12: case 13: case 14: case 15: due(run, c, "worth", x.worth(q, p, v), m.worth(q, p, v)); break;
            case 16: { int k = from(-1, 5); due(run, c, "proposalOf", x.proposalOf(q, k), m.proposalOf(q, k)); break; }
            case 17: { int law = from(0, 2), k = law == 2 ? from(0, 20) : from(0, 3); due(run, c, "set", x.set(law, k), m.set(law, k)); break; }
            case 18: due(run, c, "law", x.law(n), m.law(n)); break;
            case 19: due(run, c, "would", x.would(q), m.would(q)); break;
            case 20: due(run, c, "says", x.says(q), m.says(q)); break;
            case 21: case 22: case 23: due(run, c, "comes", x.comes(q), m.comes(q)); break;
            case 24: case 25: due(run, c, "lot", x.lot(), m.lot()); break;
            case 26: due(run, c, "had", x.had(p), m.had(p)); break;
            case 27: due(run, c, "seed", x.seed(any), m.seed(any)); break;
            case 28: due(run, c, "value", x.value(p, n, part), m.value(p, n, part)); break;
            case 29: due(run, c, "best", x.best(p, n, part), m.best(p, n, part)); break;
            case 30: { int k = from(0, 2); due(run, c, "should", x.should(p, q, k), m.should(p, q, k)); break; }
            case 31: { int k = from(1, 2); due(run, c, "barOf", x.barOf(p, k), m.barOf(p, k)); break; }
            case 32: due(run, c, "lets", x.lets(q, part), m.lets(q, part)); break;
            case 33: { int k = from(1, 2); due(run, c, "harm", x.harm(k), m.harm(k)); break; }
            case 34: due(run, c, "spoilt", x.spoilt(n, part), m.spoilt(n, part)); break;
            case 35: { int k = from(1, 12); due(run, c, "prove", x.prove(k), m.prove(k)); break; }
            case 36: due(run, c, "row", x.row(item, n), m.row(item, n)); break;
            case 37: if (chance.nextInt(3) == 0) due(run, c, "alterRow", x.alterRow(item, n, noes), m.alterRow(item, n, noes)); break;
            case 38: due(run, c, "judge", x.judge(), m.judge()); break;
            case 39: due(run, c, "worths", x.worths(q, shelf), m.worths(q, shelf)); break;
            case 40: { int sort = from(-1, 3), k = chance.nextInt(4) == 0 ? from(-1, 41) : from(0, 8); due(run, c, "sheet", x.sheet(shelf, sort, k), m.sheet(shelf, sort, k)); break; }
            case 41: case 42: due(run, c, "put", x.put(shelf, item, any), m.put(shelf, item, any)); break;
            case 43: due(run, c, "item", x.item(shelf, act, item), m.item(shelf, act, item)); break;
            case 44: case 45: { int what = from(0, 2), k = what == 1 ? from(0, 3) : p; due(run, c, "shelf", x.shelf(shelf, what, k), m.shelf(shelf, what, k)); break; }
            case 46: case 47: { int as = from(0, 13); due(run, c, "taken", x.taken(shelf, as), m.taken(shelf, as)); break; }
            case 48: case 49: case 50:
                due(run, c, "act", x.act(shelf, act, any), m.act(shelf, act, any));
                for (int i = -1; i < 13; i++) due(run, c, "trace", x.trace(i), m.trace(i));
                break;
            case 51: due(run, c, "trace", x.trace(item), m.trace(item)); break;
            case 52: case 53: { int what = from(0, 7); due(run, c, "many", x.many(what), m.many(what)); break; }
            case 54: if (chance.nextInt(5) == 0) due(run, c, "keep", x.keep(), m.keep()); break;
            case 55: if (chance.nextInt(5) == 0) due(run, c, "again", x.again(), m.again()); break;
            default: due(run, c, "whole state", whole(x), whole(m)); break;
        }
    }

    static long whole(LifeNoes x) {
        long sum = 0;
        for (int p = 0; p < 6; p++) for (int w = 0; w < 4; w++) sum = sum * 31 + x.personOf(p, w);
        for (int p = 0; p < 6; p++) sum = sum * 31 + x.had(p);
        for (int q = 0; q < 8; q++) for (int p = -1; p < 6; p++) sum = sum * 31 + x.proposalOf(q, p);
        for (int i = 0; i < 4; i++) sum = sum * 31 + x.law(i);
        for (int i = 0; i < 8; i++) sum = sum * 31 + x.many(i);
        for (int i = 0; i < 12; i++) for (int w = 0; w < 3; w++) sum = sum * 31 + x.row(i, w);
        for (int i = 0; i < 4; i++) for (int s = 0; s < 4; s++) for (int j = 0; j < 40; j++) sum = sum * 31 + x.item(i, s, j);
        for (int i = 0; i < 4; i++) for (int s = 0; s < 14; s++) sum = sum * 31 + x.taken(i, s);
        return sum;
    }

    static long whole(Model x) {
        long sum = 0;
        for (int p = 0; p < 6; p++) for (int w = 0; w < 4; w++) sum = sum * 31 + x.personOf(p, w);
        for (int p = 0; p < 6; p++) sum = sum * 31 + x.had(p);
        for (int q = 0; q < 8; q++) for (int p = -1; p < 6; p++) sum = sum * 31 + x.proposalOf(q, p);
        for (int i = 0; i < 4; i++) sum = sum * 31 + x.law(i);
        for (int i = 0; i < 8; i++) sum = sum * 31 + x.many(i);
        for (int i = 0; i < 12; i++) for (int w = 0; w < 3; w++) sum = sum * 31 + x.row(i, w);
        for (int i = 0; i < 4; i++) for (int s = 0; s < 4; s++) for (int j = 0; j < 40; j++) sum = sum * 31 + x.item(i, s, j);
        for (int i = 0; i < 4; i++) for (int s = 0; s < 14; s++) sum = sum * 31 + x.taken(i, s);
        return sum;
    }
}
