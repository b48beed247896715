import java.nio.file.Files;
import java.nio.file.Path;
import java.util.ArrayList;
import java.util.Arrays;
import java.util.List;
import java.util.Set;
import java.util.TreeSet;

/** What the tests of boundaries share. Each test holds one sentence of the document, told in its own words. */
abstract class Bounds {
    interface Call { long on(LifeNoes x); }

    interface CallWith { long on(LifeNoes x, int v); }

    interface Setup { void on(LifeNoes x); }

    static final int BAD = -1, FULL = -2, NONE = -3, STATE = -4, NO_ROW = -9;
    static final int NOTHING = -11, OUTSIDE = -12, OTHER = -13, BELOW = -14, PARTED = -15;
    static final long NO = -1000000000000L;
    static final int LEAST = Integer.MIN_VALUE, MOST = Integer.MAX_VALUE;

    /** The object of the sentence that is held just now: a new one for each. */
    static LifeNoes x;
    private static String document = "", words = "";
    private static int promise = 0, asked = 0, wrong = 0, sentences = 0;
    private static final Set<Integer> held = new TreeSet<>();
    /** Of each sign of the document whether some sentence that was held has it. */
    private static boolean[] covered = {};

    static String readDocument() throws Exception {
        document = Files.readString(Path.of("../shared/DOC.md")).replaceAll("\\s+", " ");
        covered = new boolean[document.length()];
        return document;
    }

    /** One test: the promise, the sentence (or that part of it that names the boundary), what it asks for. */
    static void sentence(int number, String itsWords, Runnable test) {
        promise = number;
        words = itsWords;
        asked = 0;
        sentences++;
        held.add(number);
        x = new LifeNoes();
        if (!document.contains(words)) say("the document has no such sentence");
        for (int at = document.indexOf(words); at >= 0; at = document.indexOf(words, at + 1)) {
            Arrays.fill(covered, at, at + words.length(), true);
        }
        test.run();
        if (asked == 0) say("nothing is asked");
    }

    static boolean end() {
        for (int i = 1; i <= 43; i++) {
            if (!held.contains(i)) System.out.println("no boundary of promise " + i + " is held");
        }
        boolean good = wrong == 0 && held.size() == 43 && allIsHeld();
        System.out.println(good ? "all sentences hold, by " + sentences + " tests" : wrong + " answers are not as the sentences say");
        return good;
    }

    /** Whether each word of what the document promises stands in a sentence that was held. */
    private static boolean allIsHeld() {
        int from = document.indexOf("## The public face"), to = document.indexOf("## Not promised"), left = 0;
        if (from < 0 || to < from) return false;
        for (int i = from; i < to; i++) {
            if (covered[i] || !Character.isLetterOrDigit(document.charAt(i))) continue;
            int end = i;
            while (end < to && !covered[end]) end++;
            System.out.println("no test holds: " + document.substring(i, end));
            left++;
            i = end;
        }
        return left == 0;
    }

    private static void say(String what) {
        wrong++;
        System.out.println("promise " + promise + ", \"" + words + "\", answer " + asked + ": " + what);
    }

    static void due(long got, long want) {
        asked++;
        if (got != want) say(got + ", due is " + want);
    }

    /** The call is refused so, and nothing that a later call shows differs from where it wasn't made. */
    static void refused(long want, Setup before, Call call) {
        LifeNoes with = new LifeNoes(), without = new LifeNoes();
        before.on(with);
        before.on(without);
        due(call.on(with), want);
        same(with, without);
    }

    /** Refused for what is just outside, and for what is far outside. */
    static void refusedOutside(int least, int most, long want, Setup before, CallWith call) {
        for (int v : new int[] {least - 1, most + 1, LEAST, MOST}) refused(want, before, y -> call.on(y, v));
    }

    /** Both answer every call alike. */
    static void same(LifeNoes with, LifeNoes without) {
        asked++;
        List<String> has = everything(with), wants = everything(without);
        for (int i = 0; i < has.size() && i < wants.size(); i++) {
            if (!has.get(i).equals(wants.get(i))) {
                say("the call has changed something: " + has.get(i) + ", without it " + wants.get(i));
                return;
            }
        }
        if (has.size() != wants.size()) say("the call has changed how many there are");
    }

    /** All that later calls show; behind it the object is used up. */
    static List<String> everything(LifeNoes y) {
        List<String> all = new ArrayList<>();
        counts(y, all, 8);
        theVillage(y, all);
        for (int i = 0; i < y.many(5); i++) {
            for (int what = 0; what < 3; what++) all.add("row " + i + " " + what + ": " + y.row(i, what));
        }
        for (int i = 0; i < y.many(7); i++) all.add("trace " + i + ": " + y.trace(i));
        for (int s = 0; s < 4; s++) theSheet(y, s, all);
        for (int s = 0; s < 4; s++) {
            for (int as = 0; as <= 13; as = as == 5 ? 10 : as + 1) {
                all.add("shelf " + s + " taken for " + as + ": " + y.taken(s, as));
            }
        }
        all.add("the tape read: " + y.village());
        theVillage(y, all);
        all.add("what was kept: " + y.again());
        counts(y, all, 5);
        theVillage(y, all);
        return all;
    }

    private static void counts(LifeNoes y, List<String> all, int most) {
        for (int what = 0; what < most; what++) all.add("many " + what + ": " + y.many(what));
    }

    private static void theVillage(LifeNoes y, List<String> all) {
        for (int law = 0; law < 4; law++) all.add("law " + law + ": " + y.law(law));
        int people = y.many(0);
        for (int p = 0; p < people; p++) {
            for (int what = 0; what < 4; what++) all.add("person " + p + " " + what + ": " + y.personOf(p, what));
            all.add("had " + p + ": " + y.had(p));
        }
        int proposals = y.many(1);
        for (int q = 0; q < proposals; q++) {
            for (int p = -1; p < people; p++) all.add("proposal " + q + " " + p + ": " + y.proposalOf(q, p));
        }
        int z = y.seed(0);
        all.add("z: " + z);
        y.seed(z);
    }

    private static void theSheet(LifeNoes y, int s, List<String> all) {
        for (int sort = 0; sort < 4; sort++) {
            int first = y.item(s, sort, 0);
            all.add("sheet " + s + " of sort " + sort + ": " + first);
            // Of the one sort that it has, all its items; our setups put no -11 to -13 there.
            for (int i = 1; i < 40 && first != NOTHING && first != OTHER && first != OUTSIDE; i++) {
                int item = y.item(s, sort, i);
                all.add("sheet " + s + " item " + i + ": " + item);
                if (item == OUTSIDE) break;
            }
        }
    }

    /** Something of everything, so that whatever changes shows. The tape holds a text without a fault. */
    static void busy(LifeNoes y) {
        y.person(1, 3, 40, 2);
        y.proposal(4);
        y.seed(31);
        y.keep();
        y.person(2, 1, 60, 0);
        y.person(4, 7, 20, 9);
        y.person(5, 255, 99, 1);
        y.proposal(2);
        y.proposal(9);
        for (int q = 0; q < 3; q++) {
            for (int p = 0; p < 4; p++) y.worth(q, p, (q + 2 * p) % 7 - 3);
        }
        y.set(2, 3);
        y.comes(0);
        y.lot();
        y.noes(0, 2);
        y.noes(1, 0);
        y.noes(2, 9);
        y.noes(3, 1);
        y.prove(3);
        y.alterRow(1, 1, 77);
        y.sheet(0, 0, 2);
        y.put(0, 1, 100);
        y.sheet(1, 2, 3);
        y.put(1, 2, 5);
        y.sheet(2, 3, 0);
        y.shelf(0, 0, 2);
        y.shelf(1, 1, 1);
        y.act(0, 3, 4);
        feed(y, "told age 5;");
    }

    /** As many as there can be of everything; the tape is full. */
    static void full(LifeNoes y) {
        for (int p = 0; p < 6; p++) y.person(p, 10 * p, 20 + p, 9);
        for (int q = 0; q < 8; q++) y.proposal(9);
        for (int q = 0; q < 8; q++) y.worth(q, q % 6, q - 4);
        for (int i = 0; i < 30; i++) y.feed(0x2020202020202020L, 8);
        y.prove(2);
    }

    static void empty(LifeNoes y) {
    }

    /** As busy, but that nothing can come by lot. */
    static void noLot(LifeNoes y) {
        busy(y);
        for (int q = 0; q < 3; q++) y.weigh(q, 0);
    }

    static void feed(LifeNoes y, String text) {
        for (int i = 0; i < text.length(); i += 8) {
            long eight = 0;
            int n = Math.min(8, text.length() - i);
            for (int j = 0; j < n; j++) eight |= (long) (text.charAt(i + j) & 255) << (8 * j);
            y.feed(eight, n);
        }
    }

    static int village(String text) {
        feed(x, text);
        return x.village();
    }

    /** A text whose fault stands where the sign ^ is; the sign is no part of it. */
    static void fault(String marked) {
        int place = marked.indexOf('^');
        String text = marked.substring(0, place) + marked.substring(place + 1);
        LifeNoes with = new LifeNoes(), without = new LifeNoes();
        busy(with);
        busy(without);
        with.village();
        without.village();
        with.prove(1);
        without.prove(1);
        feed(with, text);
        due(with.many(6), text.length());
        due(with.village(), -100 - place);
        due(with.many(6), 0);
        same(with, without);
    }

    /** A text without a fault: how many people it tells. */
    static void good(int people, String text) {
        due(village(text), people);
    }

    static String times(int n, String text) {
        return text.repeat(n);
    }

    static void person(int p, int kind, int a, int age, int noes) {
        due(x.personOf(p, 0), kind);
        due(x.personOf(p, 1), a);
        due(x.personOf(p, 2), age);
        due(x.personOf(p, 3), noes);
    }
}
