/** Boundaries of promises 16 to 21: who would say no, who does, what a year does, the lot. */
final class TheYears extends Bounds {
    static void hold() {
        would();
        says();
        comes();
        lot();
        had();
        seed();
    }

    /** People of one kind, each with one no; what the only proposal is worth to them. */
    static void people(LifeNoes y, int kind, int a, int... worths) {
        if (y.many(1) == 0) y.proposal(1);
        for (int worth : worths) y.worth(0, y.person(kind, a, 50, 1), worth);
    }

    static void would() {
        sentence(16, "Who WOULD say no (a set). BAD.", () -> {
            refusedOutside(0, 2, BAD, Bounds::busy, (y, v) -> y.would(v));
            refusedOutside(0, 7, BAD, Bounds::full, (y, v) -> y.would(v));
            refused(BAD, Bounds::empty, y -> y.would(0));
            refused(BAD, y -> y.person(1, 0, 0, 1), y -> y.would(0));
            // Without people: nobody.
            x.proposal(1);
            due(x.would(0), 0);
        });
        sentence(16, "Sets are told by bits.", () -> {
            people(x, 1, 0, -1, 0, 0, 0, 0, -1);
            due(x.would(0), 33);
            for (int p = 0; p < 6; p++) x.worth(0, p, -9);
            due(x.would(0), 63);
            x.leave(0);
            due(x.would(0), 31);
        });
        sentence(16, "WOULD of a PERSON without NOES: not.", () -> {
            for (int kind = 0; kind < 6; kind++) people(x, kind, kind == 5 ? 1 : 0, -9);
            due(x.would(0), 62);
            for (int p = 0; p < 6; p++) x.noes(p, 0);
            due(x.would(0), 0);
            for (int p = 0; p < 6; p++) x.noes(p, 9);
            due(x.would(0), 62);
        });
        sentence(16, "sayer: never, whatever the PROPOSAL.", () -> {
            people(x, 0, 255, -9, 9, 0);
            due(x.would(0), 0);
        });
        sentence(16, "quick: if its WORTH to him is below 0.", () -> {
            people(x, 1, 255, -9, -1, 0, 1, 9);
            due(x.would(0), 3);
        });
        sentence(16, "bar: if it is below 0 less A.", () -> {
            people(x, 2, 0, -9, -1, 0, 1, 9);
            due(x.would(0), 3);
            for (int p = 0; p < 5; p++) x.mind(p, 2, 1);
            due(x.would(0), 1);
            x.worth(0, 1, -2);
            due(x.would(0), 3);
            for (int p = 0; p < 5; p++) x.mind(p, 2, 8);
            due(x.would(0), 1);
            // No worth is below 0 less 9, or less what is more than that.
            for (int a : new int[] {9, 10, 128, 255}) {
                for (int p = 0; p < 5; p++) x.mind(p, 2, a);
                due(x.would(0), 0);
            }
        });
        sentence(16, "wait: as bar, but not if some other PERSON with NOES has less WORTH of it than he.", () -> {
            // As bar: at 0 less A he would not, below it he would.
            people(x, 3, 2, -2);
            due(x.would(0), 0);
            x.worth(0, 0, -3);
            due(x.would(0), 1);
            // As much is not less, and one waits for anybody with noes, of whatever kind.
            people(x, 0, 0, -3);
            due(x.would(0), 1);
            x.worth(0, 1, -4);
            due(x.would(0), 0);
            x.noes(1, 0);
            due(x.would(0), 1);
            x.noes(1, 1);
            due(x.would(0), 0);
            // Less than all of them: he himself is no other one.
            x.worth(0, 0, -5);
            due(x.would(0), 1);
            x.worth(0, 0, -9);
            x.worth(0, 1, -9);
            due(x.would(0), 1);
            people(x, 3, 9, -9);
            due(x.would(0), 1);
            x.mind(2, 3, 8);
            due(x.would(0), 5);
        });
        sentence(16, "only the one at place YEAR modulo how many they are", () -> {
            // One alone has every year; the places of three are those of the years 1, 2, 3, 4.
            people(x, 4, 0, -1);
            due(x.would(0), 1);
            people(x, 4, 0, -1, -1);
            x.proposal(0);
            int[] turn = {2, 4, 1, 2};
            for (int year = 1; year <= 4; year++) {
                due(x.law(3), year);
                due(x.would(0), turn[year - 1]);
                x.comes(1);
            }
            // Year 5: of two it is the second one's, of three the third one's.
            x.noes(2, 0);
            due(x.would(0), 2);
            x.noes(2, 1);
            due(x.would(0), 4);
            // Those without noes and those of other kinds have no place, nor does he give his place away.
            x.noes(0, 0);
            due(x.would(0), 4);
            x.mind(0, 1, 0);
            x.noes(0, 1);
            due(x.would(0), 5);
            x.worth(0, 2, 0);
            due(x.would(0), 1);
            x.mind(1, 0, 0);
            x.mind(2, 0, 0);
            due(x.would(0), 1);
        });
        sentence(16, "league: as quick", () -> {
            people(x, 4, 255, 0);
            due(x.would(0), 0);
            x.worth(0, 0, -1);
            due(x.would(0), 1);
        });
        sentence(16, "told: if bit P of A is 1 (P: its number).", () -> {
            for (int q = 0; q < 8; q++) x.proposal(1);
            x.person(5, 0, 0, 1);
            for (int q = 0; q < 8; q++) x.worth(q, 0, q % 2 == 0 ? 9 : -9);
            for (int a : new int[] {0, 1, 2, 128, 254, 127, 255}) {
                x.mind(0, 5, a);
                for (int q = 0; q < 8; q++) due(x.would(q), (a >> q) % 2);
            }
        });
    }

    static void says() {
        sentence(17, "THOSE WHO SAY NO (a set). BAD.", () -> {
            refusedOutside(0, 2, BAD, Bounds::busy, (y, v) -> y.says(v));
            refusedOutside(0, 7, BAD, Bounds::full, (y, v) -> y.says(v));
            refused(BAD, Bounds::empty, y -> y.says(0));
            x.proposal(1);
            due(x.says(0), 0);
            x.set(1, 1);
            due(x.says(0), 0);
        });
        sentence(17, "all who WOULD; in turn (TURN 1)", () -> {
            people(x, 1, 0, -1, -1, 0, -1, -1, -1);
            for (int need = 1; need <= 3; need++) {
                x.set(0, need);
                due(x.says(0), 59);
            }
            x.set(1, 1);
            due(x.says(0), 11);
        });
        sentence(17, "by AGE, the oldest first (of one AGE by numbers), no more than NEED of them.", () -> {
            int[] ages = {0, 99, 98, 99, 0, 1};
            x.proposal(1);
            for (int age : ages) x.worth(0, x.person(1, 0, age, 1), -1);
            x.set(1, 1);
            int[] says = {2, 10, 14};
            for (int need = 1; need <= 3; need++) {
                x.set(0, need);
                due(x.says(0), says[need - 1]);
            }
            // As many as NEED, one more, one less.
            x.noes(1, 0);
            x.noes(2, 0);
            x.noes(3, 0);
            due(x.says(0), 49);
            x.set(0, 2);
            due(x.says(0), 33);
            x.set(0, 1);
            due(x.says(0), 32);
            x.set(0, 3);
            x.noes(5, 0);
            due(x.says(0), 17);
            x.set(0, 1);
            due(x.says(0), 1);
            x.noes(0, 0);
            x.noes(4, 0);
            due(x.says(0), 0);
        });
    }

    static void comes() {
        sentence(18, "A PROPOSAL comes: 1 it FALLS, 0 it PASSES. BAD; STATE: the YEAR is 999.", () -> {
            refusedOutside(0, 2, BAD, Bounds::busy, (y, v) -> y.comes(v));
            refusedOutside(0, 7, BAD, Bounds::full, (y, v) -> y.comes(v));
            refused(BAD, Bounds::empty, y -> y.comes(0));
            // What weighs 0 may come too.
            x.proposal(0);
            due(x.comes(0), 0);
            // No object that is used for 512 calls comes to this year; ours go on as the document says.
            refused(STATE, TheYears::year999, y -> y.comes(0));
            refusedOutside(0, 1, BAD, TheYears::year999, (y, v) -> y.comes(v));
            LifeNoes last = new LifeNoes();
            yearOf(last, 998);
            due(last.comes(0), 0);
            due(last.law(3), 999);
            due(last.comes(0), STATE);
            due(last.law(3), 999);
        });
        sentence(18, "It FALLS, if they are NEED or more; else it PASSES: each PERSON has its WORTH.", () -> {
            people(x, 1, 0, -1, -2, -3);
            x.worth(0, x.person(0, 0, 0, 0), 9);
            for (int p = 0; p < 3; p++) x.noes(p, 9);
            int[] noes = {9, 9, 9};
            for (int need = 1; need <= 3; need++) {
                x.set(0, need);
                // need - 1 who say no, need of them, one more.
                for (int many = need - 1; many <= Math.min(3, need + 1); many++) {
                    for (int p = 0; p < 3; p++) {
                        x.noes(p, p < many ? 9 : 0);
                        noes[p] = p < many ? 8 : 0;
                    }
                    int had = x.had(3), had0 = x.had(0);
                    due(x.comes(0), many >= need ? 1 : 0);
                    due(x.had(3), many >= need ? had : had + 9);
                    due(x.had(0), many >= need ? had0 : had0 - 1);
                    for (int p = 0; p < 3; p++) due(x.personOf(p, 3), noes[p]);
                }
            }
            due(x.many(3), 5);
            due(x.many(4), 3);
        });
        sentence(18, "They have one NO less each.", () -> {
            people(x, 1, 0, -1, -1, 0);
            x.noes(1, 9);
            // Also those who are not enough have one less; who says nothing has not.
            x.set(0, 3);
            due(x.comes(0), 0);
            due(x.personOf(0, 3), 0);
            due(x.personOf(1, 3), 8);
            due(x.personOf(2, 3), 1);
            due(x.comes(0), 0);
            due(x.personOf(0, 3), 0);
            due(x.personOf(1, 3), 7);
            // In turn only he who is asked has one less.
            x.set(0, 1);
            x.set(1, 1);
            x.noes(0, 2);
            due(x.comes(0), 1);
            due(x.personOf(0, 3), 1);
            due(x.personOf(1, 3), 7);
        });
        sentence(18, "each time when the YEAR that is over is a multiple of it (above 0), each of those without NOES has 1", () -> {
            for (int grow : new int[] {0, 1, 2, 3, 19, 20}) {
                LifeNoes y = new LifeNoes();
                y.proposal(0);
                y.person(0, 0, 0, 0);
                y.person(0, 0, 0, 1);
                y.person(0, 0, 0, 9);
                y.set(2, grow);
                for (int year = 1; year <= 41; year++) {
                    y.comes(0);
                    due(y.personOf(0, 3), grow > 0 && year % grow == 0 ? 1 : 0);
                    due(y.personOf(1, 3), 1);
                    due(y.personOf(2, 3), 9);
                    y.noes(0, 0);
                }
            }
            // He who says his last one in such a year has one again.
            people(x, 1, 0, -1);
            x.set(2, 1);
            due(x.comes(0), 1);
            due(x.personOf(0, 3), 1);
        });
        sentence(18, "Then the YEAR is over: GROW; the YEAR is 1 more.", () -> {
            x.proposal(0);
            due(x.comes(0), 0);
            due(x.law(3), 2);
            due(x.comes(0), 0);
            due(x.law(3), 3);
        });
    }

    static void year999(LifeNoes y) {
        y.proposal(1);
        y.person(1, 0, 0, 1);
        yearOf(y, 999);
    }

    static void yearOf(LifeNoes y, int year) {
        y.proposal(1);
        for (int i = 1; i < year; i++) y.comes(0);
    }

    static void lot() {
        sentence(19, "NONE: all WEIGHTS are 0; STATE: the YEAR is 999.", () -> {
            refused(NONE, Bounds::empty, y -> y.lot());
            refused(NONE, Bounds::noLot, y -> y.lot());
            LifeNoes y = new LifeNoes();
            for (int q = 0; q < 8; q++) y.proposal(0);
            due(y.lot(), NONE);
            y.weigh(7, 1);
            due(y.lot(), 7);
            // As for comes(): beyond 512 calls; both at once: NONE.
            refused(STATE, TheYears::year999, z -> z.lot());
            refused(NONE, z -> { year999(z); z.weigh(0, 0); z.weigh(1, 0); }, z -> z.lot());
            LifeNoes last = new LifeNoes();
            yearOf(last, 998);
            due(last.lot(), 0);
            due(last.lot(), STATE);
        });
        sentence(19, "of PROPOSALS by numbers the first with (z >>> 16) modulo all WEIGHTS below the WEIGHTS up to it together.", () -> {
            // With a z whose (z >>> 16) is v: each v from 0 to all weights, where it wraps around.
            int[] weights = {0, 1, 0, 2, 9, 0, 1, 0};
            int[] drawn = {1, 3, 3, 4, 4, 4, 4, 4, 4, 4, 4, 4, 6, 1, 3, 3};
            for (int weight : weights) x.proposal(weight);
            for (int v = 0; v < drawn.length; v++) {
                x.seed(ahead(v << 16 | 0xffff));
                due(x.lot(), drawn[v]);
                due(x.seed(0), v << 16 | 0xffff);
            }
            // All 16 bits above are taken as a number of 0 or more: 65535 modulo 13 is 2, 32768 modulo 13 is 8.
            x.seed(ahead(-1));
            due(x.lot(), 3);
            x.seed(ahead(LEAST));
            due(x.lot(), 4);
            x.seed(ahead(0));
            due(x.lot(), 1);
            // One alone always comes.
            for (int q : new int[] {1, 3, 4}) x.weigh(q, 0);
            x.seed(ahead(-1));
            due(x.lot(), 6);
        });
        sentence(19, "z (an int; 1 at first) becomes z * 1103515245 + 12345", () -> {
            x.proposal(1);
            due(x.lot(), 0);
            due(x.seed(MOST), 1103527590);
            due(x.lot(), 0);
            due(x.seed(LEAST), MOST * 1103515245 + 12345);
            due(x.lot(), 0);
            due(x.seed(-1), LEAST + 12345);
            due(x.lot(), 0);
            due(x.seed(0), -1103502900);
            due(x.lot(), 0);
            due(x.seed(0), 12345);
            // comes() draws no lot.
            x.comes(0);
            due(x.seed(0), 0);
        });
    }

    /** The z from which the next one is as told. */
    static int ahead(int next) {
        int inverse = 1;
        for (int i = 0; i < 5; i++) inverse *= 2 - 1103515245 * inverse;
        return (next - 12345) * inverse;
    }

    static void had() {
        sentence(20, "What a PERSON has had of all that came, and 100000 more. BAD.", () -> {
            refusedOutside(0, 3, BAD, Bounds::busy, (y, v) -> y.had(v));
            refusedOutside(0, 5, BAD, Bounds::full, (y, v) -> y.had(v));
            refused(BAD, Bounds::empty, y -> y.had(0));
            x.person(0, 0, 0, 0);
            x.person(0, 0, 0, 0);
            due(x.had(0), 100000);
            x.proposal(1);
            x.worth(0, 0, -9);
            x.worth(0, 1, 9);
            for (int year = 1; year <= 200; year++) x.comes(0);
            due(x.had(0), 100000 - 1800);
            due(x.had(1), 100000 + 1800);
            // What falls is not had, and one who comes later has had nothing.
            x.mind(0, 1, 0);
            x.noes(0, 1);
            due(x.comes(0), 1);
            due(x.had(1), 101800);
            x.person(0, 0, 0, 0);
            due(x.had(2), 100000);
            due(x.had(3), BAD);
        });
    }

    static void seed() {
        sentence(21, "z becomes v: what it was.", () -> {
            due(x.seed(0), 1);
            // What is below 0 is no refusal here.
            int before = 0;
            for (int v : new int[] {MOST, LEAST, -1, -2, -3, -4, -9, -11, 0, 1}) {
                due(x.seed(v), before);
                before = v;
            }
            due(x.seed(1), 1);
        });
    }
}
