import java.util.List;

/**
 * The sentences of the Terms as wholes, from the first to the last, also where they name no boundary: what is ahead is held
 * against years that do come, row by row of proposals.
 */
final class TheRest extends Bounds {
    interface Measure { long of(LifeNoes y, int[] row); }

    static void hold() {
        refusals();
        theVillage();
        theText();
        whoWould();
        aYear();
        yearsAhead();
        bestAhead();
        barAndLets();
        harmAndSpoilt();
        lotAndRows();
        acts();
        sheetsAndShelves();
        tapeAndLot();
        readerAndCounts();
    }

    /** Three proposals and four people of several kinds; others may have more of them. */
    static void some(LifeNoes y) {
        feed(y, "quick age 40 noes 2;bar age 30 bar 2;wait age 60 bar 1;league age 20;"
            + "proposal 3 worth -1,4,-2,3;proposal 1 worth 5,-3,-3,0;proposal 2 worth -2,1,1,-4;grow 2;");
        y.village();
    }

    static void someInTurn(LifeNoes y) {
        some(y);
        y.set(0, 2);
        y.set(1, 1);
    }

    static void refusals() {
        sentence(41, "## Terms Answers below 0, where not told otherwise, are refusals; such a call changes nothing (but that THE TAPE is "
            + "used up by village()); of several the first named: BAD (-1) there is no such thing, or a number is not as told; FULL (-2); "
            + "NONE (-3); STATE (-4); and what the host refuses: -11 nothing where something is asked, -12 a place outside, -13 a thing of "
            + "another sort or kind, -14 a size below 0, -15 parted by 0.", () -> {
            refused(-1, Bounds::busy, y -> y.personOf(4, 0));
            refused(-1, Bounds::busy, y -> y.noes(0, 10));
            refused(-2, Bounds::full, y -> y.person(0, 0, 0, 0));
            refused(-3, Bounds::noLot, y -> y.lot());
            refused(-4, TheYears::year999, y -> y.comes(0));
            refused(-11, Bounds::busy, y -> y.put(3, 0, 0));
            refused(-12, Bounds::busy, y -> y.put(0, 2, 0));
            refused(-13, Bounds::busy, y -> y.item(0, 2, 0));
            refused(-13, Bounds::busy, y -> y.taken(0, 5));
            refused(-14, Bounds::busy, y -> y.sheet(0, 0, -1));
            fault("told age 5;^;");
            busy(x);
            x.mind(2, 4, 2);
            due(x.act(0, 2, 5), -15);
        });
        sentence(22, "Sets are told by bits. Quotients are cut towards 0. A part of a fraction: 0 above the line, 1 below it, without a "
            + "common divisor, below above 0 (0 is 0 by 1). Where a number told may itself be below 0, NO (-1000000000000) stands for all "
            + "refusals.", () -> {
            good(3, "told age 1 bar 1;quick age 1;sayer age 1;proposal 4 worth 0,-1,-3;proposal 2;need 3;");
            due(x.would(0), 3);
            x.mind(0, 0, 2);
            x.shelf(0, 0, 0);
            due(x.act(0, 2, 7), 3);
            due(x.act(0, 2, -7), -3);
            due(x.value(2, 1, 0), -2);
            due(x.value(2, 1, 1), 1);
            due(x.value(1, 1, 0), -2);
            due(x.value(1, 1, 1), 3);
            due(x.value(0, 1, 0), 0);
            due(x.value(0, 1, 1), 1);
            due(x.value(3, 1, 0), -1000000000000L);
            due(x.best(0, 1, 2), -1000000000000L);
        });
    }

    static void theVillage() {
        sentence(4, "======== 1 THE VILLAGE: PEOPLE, 6 at most, numbered as they come (when one leaves, those behind are one less): a KIND: 0 "
            + "sayer; 1 quick, 2 bar, 5 told (under sayer), 3 wait (under bar), 4 league (under quick); A (0 to 255); AGE (0 to 99); NOES "
            + "(0 to 9). PROPOSALS, 8 at most, numbered as they come: WEIGHT (0 to 9), WORTH to each PERSON (-9 to 9; 0 at first, and to "
            + "those who come later).", () -> {
            for (int p = 0; p < 6; p++) due(x.person(p, 51 * p, 19 * p + 4, p + 4), p);
            for (int q = 0; q < 8; q++) due(x.proposal(q + 2 - q / 7), q);
            for (int p = 0; p < 6; p++) due(x.worth(6, p, 3 * p - 7), 10);
            due(x.person(0, 0, 0, 0), FULL);
            due(x.proposal(0), FULL);
            due(x.leave(1), 5);
            int[] left = {0, 2, 3, 4, 5};
            for (int p = 0; p < 5; p++) {
                person(p, left[p], 51 * left[p], 19 * left[p] + 4, left[p] + 4);
                due(x.proposalOf(6, p), 10 + 3 * left[p] - 7);
                due(x.proposalOf(5, p), 10);
            }
            due(x.person(1, 0, 0, 0), 5);
            for (int q = 0; q < 8; q++) due(x.proposalOf(q, 5), 10);
            due(x.proposalOf(7, -1), 8);
        });
        sentence(14, "```text LAWS: 0 NEED (1 to 3; 1 at first): how many must say no; 1 TURN (0 all at once, at first; 1 in turn); 2 GROW (0 "
            + "to 20; 0 at first): each time when the YEAR that is over is a multiple of it (above 0), each of those without NOES has 1. The "
            + "YEAR is now (1 at first, 999 at most). THE TAPE takes bytes, 240 at most; village() uses it up.", () -> {
            good(3, "quick age 1;quick age 2;quick age 3;proposal 1 worth -1,-1,-1;");
            due(x.set(0, 3), 1);
            due(x.comes(0), 1);
            due(x.many(2), 0);
            due(x.set(2, 4), 0);
            for (int year = 2; year <= 4; year++) {
                due(x.law(3), year);
                due(x.many(2), 0);
                due(x.comes(0), 0);
            }
            due(x.many(2), 3);
            due(x.leave(0), 2);
            due(x.comes(0), 0);
            due(x.many(2), 0);
            for (int year = 6; year <= 8; year++) x.comes(0);
            due(x.many(2), 2);
            due(x.set(0, 1), 3);
            due(x.set(1, 1), 0);
            due(x.comes(0), 1);
            due(x.personOf(0, 3), 1);
            due(x.personOf(1, 3), 0);
            due(x.many(6), 0);
        });
    }

    static void theText() {
        sentence(3, "village() uses it up. TEXT: { KIND age N [ bar N ] [ noes N ] ; | proposal N [ worth W { , W } ] ; | need N ; | turn ; | "
            + "grow N ; } KIND: sayer | quick | bar | wait | league | told (bar tells A; NOES are 1 if it isn't told). W: [ - ] N, for PEOPLE "
            + "told ahead, by numbers; others have 0. PEOPLE, PROPOSALS are by it alone, LAWS as at first unless it tells them; YEAR 1.", () -> {
            full(x);
            x.set(0, 3);
            x.comes(0);
            x.village();
            // In any order, and each as often as one likes.
            good(4, "grow 9;proposal 5;turn;bar age 7 bar 3 noes 2;need 2;proposal 4 worth -3;league age 8 noes 0;turn;grow 8;"
                + "bar age 9 bar 4;proposal 3 worth 1,-2,3;need 3;told age 0;");
            person(0, 2, 3, 7, 2);
            person(1, 4, 0, 8, 0);
            person(2, 2, 4, 9, 1);
            person(3, 5, 0, 0, 1);
            int[][] worths = {{5, 10, 10, 10, 10}, {4, 7, 10, 10, 10}, {3, 11, 8, 13, 10}};
            due(x.many(1), 3);
            for (int q = 0; q < 3; q++) {
                for (int p = -1; p < 4; p++) due(x.proposalOf(q, p), worths[q][p + 1]);
            }
            int[] laws = {3, 1, 8, 1};
            for (int law = 0; law < 4; law++) due(x.law(law), laws[law]);
            good(0, "proposal 1;");
            int[] first = {1, 0, 0, 1};
            for (int law = 0; law < 4; law++) due(x.law(law), first[law]);
        });
        sentence(3, "NAMES are rows of letters a to z, NUMBERS rows of digits (1 to 3), both as long as they go; blanks (32) part them, and stand "
            + "elsewhere as one likes. FAULT: the place (from 0) of the first byte of the first NAME, NUMBER or other byte that can't stand there "
            + "or is not as told (a NUMBER out of range, of more digits; the first byte of a W for which there is no PERSON; the first NAME of "
            + "a seventh PERSON, of a ninth PROPOSAL), or the end (how many bytes there are), if more must come.", () -> {
            // Whatever is cut off somewhere, or has a sign too many: the fault is where reading can't go on.
            String text = "wait age 12 bar 200 noes 3 ; proposal 7 worth - 4 ;";
            for (int cut = 1; cut < text.length(); cut++) {
                String start = text.substring(0, cut);
                int end = text.charAt(cut - 1) == ';' || start.trim().endsWith(";") ? 1 : -100 - cut;
                // A name or a number cut in two may be at fault itself; what stands ahead of it is good.
                String last = start.substring(Math.max(start.lastIndexOf(' '), 0)).trim();
                boolean half = !last.isEmpty() && !List.of("wait", "age", "bar", "noes", "proposal", "worth", "-", ";").contains(last)
                    && !Character.isDigit(last.charAt(0));
                due(village(start), half ? -100 - start.length() + last.length() : end);
            }
            for (char sign : new char[] {'!', 'A', '\t', (char) 255, '='}) {
                for (int place = 0; place <= text.length(); place++) {
                    boolean inside = place > 0 && place < text.length() && Character.isLetterOrDigit(text.charAt(place - 1));
                    int got = village(text.substring(0, place) + sign + text.substring(place));
                    // Behind a half name the name is at fault, else the sign.
                    boolean halfName = inside && Character.isLetter(text.charAt(place)) && Character.isLetter(text.charAt(place - 1));
                    int from = place;
                    while (halfName && from > 0 && Character.isLetter(text.charAt(from - 1))) from--;
                    due(got, -100 - from);
                }
            }
        });
    }

    static void whoWould() {
        sentence(16, "======== 2 A PROPOSAL comes. WOULD of a PERSON without NOES: not. sayer: never, whatever the PROPOSAL. quick: if its WORTH "
            + "to him is below 0. bar: if it is below 0 less A. wait: as bar, but not if some other PERSON with NOES has less WORTH of it than "
            + "he. league: as quick, but of those of KIND league with NOES, by numbers, only the one at place YEAR modulo how many they are. "
            + "told: if bit P of A is 1 (P: its number).", () -> {
            good(6, "sayer age 1;quick age 1;bar age 1 bar 3;wait age 1 bar 3;league age 1;told age 1 bar 2;proposal 1;proposal 1;");
            due(x.would(0), 0);
            due(x.would(1), 32);
            for (int p = 0; p < 6; p++) x.worth(0, p, -4);
            due(x.would(0), 2 + 4 + 8 + 16);
            x.worth(0, 0, -5);
            due(x.would(0), 2 + 4 + 16);
            x.noes(0, 0);
            due(x.would(0), 2 + 4 + 8 + 16);
            for (int p = 1; p < 6; p++) x.worth(0, p, -3);
            due(x.would(0), 2 + 16);
            // Three of the league, in the years 1 to 4, then without one of them.
            for (int p = 1; p < 6; p += 2) x.mind(p, 4, 0);
            x.mind(4, 0, 0);
            int[] called = {1, 3, 5};
            for (int year = 1; year <= 4; year++) {
                due(x.would(0), 1 << called[year % 3]);
                x.comes(1);
            }
            x.noes(1, 0);
            due(x.would(0), 1 << 5);
            x.noes(3, 0);
            due(x.would(0), 1 << 5);
            x.noes(5, 0);
            due(x.would(0), 0);
        });
    }

    static void aYear() {
        sentence(18, "```text THOSE WHO SAY NO: all who WOULD; in turn (TURN 1): by AGE, the oldest first (of one AGE by numbers), no more than "
            + "NEED of them. They have one NO less each. It FALLS, if they are NEED or more; else it PASSES: each PERSON has its WORTH. Then the "
            + "YEAR is over: GROW; the YEAR is 1 more.", () -> {
            for (int turn = 0; turn <= 1; turn++) {
                for (int need = 1; need <= 3; need++) {
                    int[] ages = {30, 50, 50, 10}, noes = {2, 1, 3, 1}, worths = {-1, -2, 4, -3};
                    good(4, "quick age 30 noes 2;quick age 50;told age 50 bar 1 noes 3;quick age 10;proposal 1 worth -1,-2,4,-3;");
                    x.set(0, need);
                    x.set(1, turn);
                    // In turn: 1 (aged 50), 2 (aged 50), 0 (aged 30), 3.
                    int[] order = {1, 2, 0, 3};
                    int says = 0;
                    for (int i = 0; i < (turn == 1 ? need : 4); i++) says |= 1 << order[i];
                    due(x.says(0), says);
                    boolean falls = Integer.bitCount(says) >= need;
                    due(x.comes(0), falls ? 1 : 0);
                    for (int p = 0; p < 4; p++) {
                        due(x.personOf(p, 3), noes[p] - (says >> p & 1));
                        due(x.personOf(p, 2), ages[p]);
                        due(x.had(p), 100000 + (falls ? 0 : worths[p]));
                    }
                    due(x.law(3), 2);
                }
            }
            // Too few: it passes, and they have one less all the same; then GROW.
            good(2, "quick age 1;sayer age 1 noes 0;proposal 1 worth -7,2;need 2;grow 1;");
            due(x.comes(0), 0);
            due(x.had(0), 99993);
            due(x.had(1), 100002);
            due(x.personOf(0, 3), 1);
            due(x.personOf(1, 3), 1);
        });
    }

    /** What is measured, of all rows of n proposals together, each as often as weights tell; and the weights of all rows. */
    static long[] ofAllRows(Setup before, int n, Measure measure) {
        LifeNoes first = new LifeNoes();
        before.on(first);
        int proposals = first.many(1), rows = 1;
        for (int i = 0; i < n; i++) rows *= proposals;
        long sum = 0, weights = 0;
        for (int r = 0; r < rows; r++) {
            int[] row = rowOf(r, n, proposals);
            long weight = 1;
            for (int q : row) weight *= first.proposalOf(q, -1);
            LifeNoes y = new LifeNoes();
            before.on(y);
            sum += weight * measure.of(y, row);
            weights += weight;
        }
        return new long[] {sum, weights};
    }

    /** The r-th row, the first proposal counting most. */
    static int[] rowOf(int r, int n, int proposals) {
        int[] row = new int[n];
        for (int i = n - 1, rest = r; i >= 0; i--, rest /= proposals) row[i] = rest % proposals;
        return row;
    }

    static long gcd(long a, long b) {
        return b == 0 ? Math.abs(a) : gcd(b, a % b);
    }

    /** The fraction is the average, without a common divisor, below above 0. */
    static void isAverage(long above, long below, long[] sumAndWeights) {
        due(below > 0 ? 1 : 0, 1);
        due(gcd(above, below), 1);
        due(above * sumAndWeights[1], sumAndWeights[0] * below);
    }

    static long hadOfRow(LifeNoes y, int p, int[] row) {
        long before = y.had(p);
        for (int q : row) y.comes(q);
        return y.had(p) - before;
    }

    static void yearsAhead() {
        sentence(22, "YEARS AHEAD, n of them: in each a PROPOSAL comes by WEIGHTS, apart from each other (none comes, if all WEIGHTS are 0: then "
            + "nothing is worth anything, YEARS go on). VALUE of a PERSON: what he has of all these, on average.", () -> {
            for (Setup before : List.<Setup>of(TheRest::some, TheRest::someInTurn, Bounds::busy)) {
                LifeNoes y = new LifeNoes();
                before.on(y);
                for (int n = 0; n <= 3; n++) {
                    for (int p = 0; p < 4; p++) {
                        int his = p;
                        isAverage(y.value(p, n, 0), y.value(p, n, 1), ofAllRows(before, n, (z, row) -> hadOfRow(z, his, row)));
                    }
                }
            }
            for (int q = 0; q < 3; q++) x.proposal(0);
            x.worth(0, x.person(0, 0, 0, 1), 9);
            due(x.value(0, 3, 0), 0);
            due(x.value(0, 3, 1), 1);
        });
    }

    /** By a way to decide (whether he says no, for each start of a row), what he has of a row: he is told it year by year. */
    static long hadByDecisions(LifeNoes y, int p, int decisions, int[] row, int proposals) {
        long before = y.had(p);
        int start = 0, known = 0;
        for (int q : row) {
            start = start * proposals + q;
            boolean no = (decisions >> known + start & 1) == 1;
            y.mind(p, 5, no ? 1 << q : 0);
            y.comes(q);
            known = known * proposals + proposals;
        }
        return y.had(p) - before;
    }

    static void bestAhead() {
        sentence(23, "All AT BEST for a PERSON: he says no or not (if he has NOES), as is best for what he has on average, knowing what came so "
            + "far; others as their KINDS; whether one WOULD (wait, league) looks at him as at others; in turn he is asked in his place, and "
            + "says it if there are not yet NEED ahead of him.", () -> {
            // All ways to decide, of which there are 2 to the 6 for two proposals and two years: the best of them.
            String people = "told age 40 noes 1;quick age 50;wait age 30 bar 1;league age 60;proposal 2 worth ";
            String[] worths = {"-1,-2,-2,1;proposal 1 worth -5,1,-6,-1;", "-3,0,-2,-1;proposal 3 worth -4,-1,2,3;",
                "4,-9,-2,-1;proposal 2 worth -1,2,-1,-1;", "-6,1,1,1;proposal 1 worth -7,-1,-1,-1;"};
            for (String worth : worths) {
                for (String laws : new String[] {"", "turn;", "need 2;", "need 2;turn;grow 1;", "need 3;turn;"}) {
                    Setup before = y -> { feed(y, people + worth + laws); y.village(); };
                    LifeNoes y = new LifeNoes();
                    before.on(y);
                    long[] most = null;
                    for (int decisions = 0; decisions < 64; decisions++) {
                        int his = decisions;
                        long[] has = ofAllRows(before, 2, (z, row) -> hadByDecisions(z, 0, his, row, 2));
                        if (most == null || has[0] > most[0]) most = has;
                    }
                    isAverage(y.best(0, 2, 0), y.best(0, 2, 1), most);
                    // He is still told by 0, so that he says nothing by himself.
                    due(y.personOf(0, 0), 5);
                }
            }
        });
        sentence(24, "Whether a PERSON would, AT BEST, say no to a PROPOSAL that comes now, n (0 to 2) YEARS AHEAD behind it: 1 if only so is best, "
            + "else 0. BAD; NONE: he has no NOES.", () -> {
            for (Setup before : List.<Setup>of(TheRest::some, TheRest::someInTurn)) {
                for (int p = 0; p < 4; p++) {
                    for (int q = 0; q < 3; q++) {
                        for (int n = 0; n <= 2; n++) due(asked(before).should(p, q, n), isBetter(before, p, q, n) ? 1 : 0);
                    }
                }
            }
        });
    }

    static LifeNoes asked(Setup before) {
        LifeNoes y = new LifeNoes();
        before.on(y);
        return y;
    }

    /** Whether he has more, now and by best() behind it, when it comes with his no; he has his own KIND again in the next year. */
    static boolean isBetter(Setup before, int p, int q, int n) {
        long[] had = new long[2], above = new long[2], below = new long[2];
        for (int no = 0; no <= 1; no++) {
            LifeNoes y = asked(before);
            int kind = y.personOf(p, 0), a = y.personOf(p, 1);
            // One of the league who is told is none of the league: only he of it is there, so that nobody else's place is altered.
            y.mind(p, 5, no << q);
            y.comes(q);
            y.mind(p, kind, a);
            had[no] = y.had(p);
            above[no] = y.best(p, n, 0);
            below[no] = y.best(p, n, 1);
        }
        return (had[1] * below[1] + above[1]) * below[0] > (had[0] * below[0] + above[0]) * below[1];
    }

    static void barAndLets() {
        sentence(25, "``` ======== 3 HIS BAR: the A (0 to 9) with which, as one of KIND bar, VALUE of a PERSON is greatest; of several the least.", () -> {
            for (Setup before : List.<Setup>of(TheRest::some, TheRest::someInTurn, Bounds::busy)) {
                for (int n = 1; n <= 2; n++) {
                    for (int p = 0; p < 4; p++) {
                        LifeNoes y = asked(before), z = asked(before);
                        int bar = 0;
                        double most = -1000;
                        for (int a = 0; a <= 9; a++) {
                            y.mind(p, 2, a);
                            double is = (double) y.value(p, n, 0) / y.value(p, n, 1);
                            if (is > most + 1e-9) bar = a;
                            most = Math.max(most, is);
                        }
                        due(z.barOf(p, n), bar);
                    }
                }
            }
        });
        sentence(26, "LETS: the least number k (0 to 3) of PROPOSALS to be brought ahead (any, year by year, with any WEIGHTS) such that a told one "
            + "PASSES when it comes then; of several rows the first (the first PROPOSAL counts most).", () -> {
            for (Setup before : List.<Setup>of(TheRest::some, TheRest::someInTurn, Bounds::busy, Bounds::noLot)) {
                for (int q = 0; q < 3; q++) {
                    int[] row = firstRow(before, q);
                    int digits = 0;
                    for (int i = 0; row != null && i < row.length; i++) digits |= row[i] << 3 * i;
                    due(asked(before).lets(q, 0), row == null ? NONE : row.length);
                    due(asked(before).lets(q, 1), row == null ? NONE : digits);
                }
            }
        });
    }

    /** The first row of up to three proposals that come, behind which the told one passes, or null. */
    static int[] firstRow(Setup before, int told) {
        int proposals = asked(before).many(1);
        for (int k = 0, rows = 1; k <= 3; k++, rows *= proposals) {
            for (int r = 0; r < rows; r++) {
                LifeNoes y = asked(before);
                int[] row = rowOf(r, k, proposals);
                for (int q : row) y.comes(q);
                if (y.comes(told) == 0) return row;
            }
        }
        return null;
    }

    static void harmAndSpoilt() {
        sentence(27, "```text HARM: of NEED 1 to 3 with TURN 0, then with TURN 1, that law with which VALUES of all PEOPLE together, n YEARS ahead, "
            + "are greatest, of several the first.", () -> {
            for (Setup before : List.<Setup>of(TheRest::some, TheRest::someInTurn, Bounds::busy, Bounds::noLot)) {
                for (int n = 1; n <= 2; n++) {
                    LifeNoes y = asked(before);
                    int law = 0;
                    double most = -1000;
                    for (int turn = 0; turn <= 1; turn++) {
                        for (int need = 1; need <= 3; need++) {
                            y.set(0, need);
                            y.set(1, turn);
                            double all = 0;
                            for (int p = 0; p < 4; p++) all += (double) y.value(p, n, 0) / y.value(p, n, 1);
                            if (all > most + 1e-9) law = 10 * turn + need;
                            most = Math.max(most, all);
                        }
                    }
                    due(asked(before).harm(n), law);
                }
            }
        });
        sentence(28, "SPOILT by n: how many PROPOSALS fall on average, in n YEARS AHEAD, whose WORTH is above 0 to all PEOPLE but one.", () -> {
            Setup liked = y -> {
                feed(y, "quick age 4 noes 2;league age 3;told age 2 bar 5;proposal 2 worth -1,3,1;proposal 1 worth 2,-1,4;proposal 3 worth 1,1,0;"
                    + "proposal 1 worth -1,-1,2;grow 2;");
                y.village();
            };
            for (Setup before : List.<Setup>of(liked, y -> { liked.on(y); y.set(1, 1); y.noes(0, 0); }, TheRest::some)) {
                for (int n = 0; n <= 3; n++) {
                    isAverage(asked(before).spoilt(n, 0), asked(before).spoilt(n, 1), ofAllRows(before, n, (y, row) -> {
                        int spoilt = 0;
                        for (int q : row) {
                            int friends = 0;
                            for (int p = 0; p < y.many(0); p++) if (y.proposalOf(q, p) > 10) friends++;
                            if (y.comes(q) == 1 && friends == y.many(0) - 1) spoilt++;
                        }
                        return spoilt;
                    }));
                }
            }
        });
    }

    static void lotAndRows() {
        sentence(19, "BY LOT: z (an int; 1 at first) becomes z * 1103515245 + 12345: of PROPOSALS by numbers the first with (z >>> 16) modulo all "
            + "WEIGHTS below the WEIGHTS up to it together.", () -> {
            some(x);
            long z = 1;
            for (int i = 0; i < 100; i++) {
                z = (z * 1103515245L + 12345) & 0xffffffffL;
                // WEIGHTS 3, 1, 2: of 6 the first three, the fourth, the last two.
                due(x.lot(), "000122".charAt((int) ((z >> 16) % 6)) - '0');
            }
            due(x.seed(0), (int) z);
        });
        sentence(29, "ROWS by n (1 to 12): (PROPOSAL, who say no as bits, 1 if it FALLS, else 0) of the next n YEARS BY LOT, from z as it is (nothing "
            + "changes). THE READER takes ROWS as those from now on: right is one that is as it must be.", () -> {
            for (Setup before : List.<Setup>of(TheRest::some, TheRest::someInTurn, Bounds::busy)) {
                LifeNoes y = asked(before), come = asked(before);
                due(y.prove(12), 12);
                for (int i = 0; i < 12; i++) {
                    int[] says = {come.says(0), come.says(1), come.says(2)};
                    int fell = come.many(3), q = come.lot();
                    due(y.row(i, 0), q);
                    due(y.row(i, 1), says[q]);
                    due(y.row(i, 2), come.many(3) - fell);
                }
                due(y.judge(), 0);
                // Each of the 36 numbers altered is seen, and right again when it is as it was.
                for (int i = 0; i < 12; i++) {
                    for (int what = 0; what < 3; what++) {
                        int was = y.alterRow(i, what, 64);
                        due(y.judge(), i + 1);
                        due(y.alterRow(i, what, was), 64);
                        due(y.judge(), 0);
                    }
                }
            }
        });
    }

    static final int[][][] RAN = {
        {{10}, {11, 10}, {12}, {13, 11, 10}},
        {{10}, {20, 11, 10}, {12}, {13, 20, 11, 10}},
        {{30, 10}, {11, 30, 10}, {12}, {31, 13, 11, 30, 10, 12}},
        {{40, 30, 10}, {41, 11, 40, 30, 10, 40, 30, 10}, {12}, {31, 13, 41, 11, 40, 30, 10, 40, 30, 10, 12}},
        {{51, 10}, {20, 11, 51, 10}, {50, 12}, {13, 20, 11, 51, 10}},
        {{10}, {11, 10}, {61, 12, 10}, {60, 13, 11, 10}},
    };

    /** What bars, waits, shares, tells of a kind come to, each as one sum. */
    static int[] sums(int kind, int n, int a, int x) {
        int by = a - n, wait = 0 - 6 * (x + n) - 6 * n;
        switch (kind) {
            case 0: return new int[] {x + n, 2 * (x + n), x / by, 2 * (x + n) ^ a};
            case 1: return new int[] {x + n, 2 * (x + n) - a, x / by, 2 * (x + n) - a ^ a};
            case 2: return new int[] {3 * (x + n), 6 * (x + n), x / by, (6 * (x + n) ^ a) + n / by};
            case 3: return new int[] {-3 * (x + n), wait, x / by, (wait ^ a) + n / by};
            case 4: return new int[] {x, 2 * x - a, (x + 2) / by ^ 1, 2 * x - a ^ a};
            default: return new int[] {x + n, 2 * (x + n), x / by + a + n, (2 * (x + n) ^ a) * 2};
        }
    }

    static void acts() {
        sentence(39, "ACTS of things, with a number x (ints that wrap): 0 bars, 1 waits, 2 shares, 3 tells. A PERSON is held as a thing of his KIND; "
            + "n: his number, a: his A. BODIES, each with its number: sayer: 10 bars: x + n. 11 waits: bars(x) * 2. 12 shares: x by (a - n), the "
            + "rest away (-15 if these are the same; that is all that act() answers then). 13 tells: waits(x) ^ a. quick: 20 waits: super.waits(x) "
            + "- a. bar: 30 bars: super.bars(x) * 3. 31 tells: super.tells(x) + shares(n). wait: 40 bars: 0 - super.bars(x). 41 waits: "
            + "super.waits(x) + bars(n). league: 50 shares: super.shares(x + 2) ^ 1. 51 bars: super.bars(x) - n. told: 60 tells: super.tells(x) * "
            + "2. 61 shares: super.shares(x) + bars(a). THE TRACE: numbers of the bodies that ran in the latest act(), as they began (left first); "
            + "the first 30 are kept.", () -> {
            for (int p = 0; p < 6; p++) x.person(0, 0, 0, 0);
            for (int kind = 0; kind < 6; kind++) {
                for (int p = 0; p < 6; p++) {
                    for (int a : new int[] {0, 1, 3, 4, 5, 6, 100, 255}) {
                        for (int number : new int[] {0, 1, -1, 7, -100, 123456, MOST, LEAST, 1 << 30}) {
                            if (a != p) actsAre(kind, p, a, number);
                        }
                    }
                }
            }
        });
    }

    static void actsAre(int kind, int p, int a, int number) {
        int[] sums = sums(kind, p, a, number);
        for (int act = 0; act < 4; act++) {
            due(TheHost.acts(p, kind, a, act, number), sums[act]);
            TheHost.ran(RAN[kind][act]);
        }
    }

    static void sheetsAndShelves() {
        sentence(36, "SHEETS 0 to 3 are rows of bytes (sort 0), shorts (1), ints (2) or longs (3), 40 at most, or missing (at first). SHELVES 0 to 3 "
            + "hold a PERSON (by its number; nothing, if there is no such one any more), a SHEET's row, or nothing (at first).", () -> {
            x.person(3, 0, 0, 0);
            x.person(4, 0, 0, 0);
            for (int s = 0; s < 4; s++) {
                due(x.item(s, 0, 0), NOTHING);
                due(x.taken(s, 0), NOTHING);
                due(x.sheet(s, s, 40), 1);
            }
            int[] narrow = {-121, 1927, 67463, 67463};
            for (int s = 0; s < 4; s++) {
                due(x.put(s, 39, 67463), 1);
                for (int sort = 0; sort < 4; sort++) due(x.item(s, sort, 39), sort == s ? narrow[s] : OTHER);
                due(x.shelf(s, 1, 3 - s), 1);
            }
            for (int s = 0; s < 4; s++) due(x.taken(s, 13 - s), 40);
            due(x.shelf(2, 0, 1), 1);
            due(x.taken(2, 1), 1);
            x.leave(0);
            due(x.taken(2, 1), NOTHING);
            due(x.taken(3, 10), 40);
        });
        sentence(33, "Numbers of a SHEET taken for ints: item p is WORTH of a PROPOSAL to PERSON p (held to -9 to 9), as far as both go: how many. BAD: "
            + "no such PROPOSAL, SHEET; -11; -13.", () -> {
            for (int p = 0; p < 4; p++) x.person(p, 0, 0, 0);
            x.proposal(1);
            x.proposal(1);
            for (int n = 0; n <= 6; n++) {
                for (int p = 0; p < 4; p++) {
                    x.worth(0, p, 5);
                    x.worth(1, p, 5);
                }
                x.sheet(2, 2, n);
                int[] items = {-9, 9, -10, 10, 1, 1};
                for (int i = 0; i < n; i++) x.put(2, i, items[i]);
                due(x.worths(1, 2), Math.min(n, 4));
                for (int p = 0; p < 4; p++) {
                    due(x.proposalOf(1, p), p < n ? 10 + Math.max(-9, Math.min(9, items[p])) : 15);
                    due(x.proposalOf(0, p), 15);
                }
            }
        });
    }

    static void tapeAndLot() {
        sentence(2, "n bytes (1 to 8) come to THE TAPE, the lowest of eight first: how many it has. BAD; FULL: more than 240.", () -> {
            // By 8, by 7, .. by 1, then all over again: the same text, however it comes.
            String text = "told age 17 bar 200 noes 9;proposal 8 worth -7;";
            int at = 0;
            for (int n = 8; at < text.length(); n = n == 1 ? 8 : n - 1) {
                long eight = -1;
                for (int i = Math.min(n, text.length() - at) - 1; i >= 0; i--) eight = eight << 8 | text.charAt(at + i);
                n = Math.min(n, text.length() - at);
                due(x.feed(eight, n), at + n);
                at += n;
                due(x.many(6), at);
                due(x.feed(eight, 9), BAD);
            }
            due(x.village(), 1);
            person(0, 5, 200, 17, 9);
            due(x.proposalOf(0, 0), 3);
        });
        sentence(19, "A PROPOSAL comes BY LOT: its number. NONE: all WEIGHTS are 0; STATE: the YEAR is 999.", () -> {
            for (Setup before : List.<Setup>of(TheRest::some, TheRest::someInTurn, Bounds::busy)) {
                LifeNoes byLot = asked(before), told = asked(before);
                for (int i = 0; i < 9; i++) told.comes(byLot.lot());
                // But for z all is as if those had come without a lot.
                byLot.seed(5);
                told.seed(5);
                same(byLot, told);
            }
        });
    }

    static void readerAndCounts() {
        sentence(32, "THE READER takes ROWS: 0 all is right (also if there are none); else the first ROW that isn't, and 1 more. NONE: all WEIGHTS "
            + "are 0.", () -> {
            some(x);
            due(x.judge(), 0);
            x.prove(9);
            due(x.judge(), 0);
            for (int i = 8; i >= 0; i--) {
                x.alterRow(i, i % 3, 99);
                due(x.judge(), i + 1);
            }
            x.prove(9);
            // Whatever is otherwise from now on: a no less, another z.
            x.noes(0, 0);
            int wrong = 0;
            while (wrong < 9 && (x.row(wrong, 1) & 1) == 0) wrong++;
            due(x.judge(), wrong + 1);
            x.noes(0, 2);
            due(x.judge(), 0);
            for (int q = 0; q < 3; q++) x.weigh(q, 0);
            due(x.judge(), NONE);
        });
        sentence(41, "How many: what = 0 PEOPLE, 1 PROPOSALS, 2 NOES in all, 3 PROPOSALS that FELL, 4 that PASSED, 5 ROWS, 6 bytes of THE TAPE, 7 "
            + "bodies of THE TRACE (those kept, 30 at most). BAD: another what.", () -> {
            int[] want = new int[8];
            counts(want);
            some(x);
            want[0] = 4;
            want[1] = 3;
            want[2] = 5;
            counts(want);
            // The quick one says no: it falls. Then nobody has a no to say, and in year 2 each has one again.
            x.comes(0);
            want[2] = x.personOf(0, 3) + x.personOf(1, 3) + x.personOf(2, 3) + x.personOf(3, 3);
            want[3] = 1;
            counts(want);
            for (int p = 0; p < 4; p++) x.noes(p, 0);
            x.comes(0);
            want[2] = 4;
            want[4] = 1;
            counts(want);
            x.prove(7);
            want[5] = 7;
            x.feed(0, 3);
            want[6] = 3;
            x.shelf(1, 0, 2);
            x.act(1, 3, 4);
            want[7] = 11;
            counts(want);
            due(x.many(8), BAD);
            due(x.many(-1), BAD);
        });
    }

    static void counts(int[] want) {
        for (int what = 0; what < 8; what++) due(x.many(what), want[what]);
    }
}
