/** What the Terms say of all calls: which refusal of several, sets, fractions, calls that only look. */
final class TheTerms extends Bounds {
    static void hold() {
        severalOfTheVillage();
        severalOfTheRest();
        fractions();
        looking();
    }

    static final String FIRST = "of several the first named";

    static void severalOfTheVillage() {
        sentence(2, FIRST, () -> {
            refused(BAD, Bounds::full, y -> y.feed(0, 9));
            refused(BAD, Bounds::full, y -> y.feed(0, 0));
        });
        sentence(4, FIRST, () -> {
            refused(BAD, Bounds::full, y -> y.person(6, 0, 0, 0));
            refused(BAD, Bounds::full, y -> y.person(0, 0, 0, 10));
        });
        sentence(8, FIRST, () -> {
            // Nobody has any: bad ahead of none. All have 9: bad ahead of full. None ahead of full, as promise 8 names them.
            Setup none = y -> { busy(y); for (int p = 0; p < 4; p++) y.noes(p, 0); };
            refused(BAD, none, y -> y.give(2, 2));
            refused(BAD, none, y -> y.give(0, 4));
            refused(BAD, Bounds::full, y -> y.give(0, 6));
            refused(BAD, Bounds::full, y -> y.give(5, 5));
            refused(NONE, y -> { full(y); y.noes(3, 0); }, y -> y.give(3, 2));
            refused(FULL, y -> { full(y); y.noes(3, 1); }, y -> y.give(3, 2));
        });
        sentence(10, FIRST, () -> {
            refused(BAD, Bounds::full, y -> y.proposal(10));
            refused(BAD, Bounds::full, y -> y.proposal(-1));
        });
        sentence(18, FIRST, () -> refused(BAD, TheYears::year999, y -> y.comes(2)));
        sentence(19, FIRST, () -> {
            refused(NONE, y -> { TheYears.year999(y); y.weigh(0, 0); y.weigh(1, 0); }, y -> y.lot());
        });
    }

    static void severalOfTheRest() {
        sentence(24, FIRST, () -> {
            refused(BAD, Bounds::busy, y -> y.should(1, 3, 0));
            refused(BAD, Bounds::busy, y -> y.should(1, 0, 3));
        });
        sentence(26, FIRST, () -> {
            Setup never = y -> { y.proposal(1); y.worth(0, y.person(1, 0, 0, 9), -1); };
            refused(BAD, never, y -> y.lets(0, 2));
            refused(BAD, never, y -> y.lets(1, 0));
        });
        sentence(29, FIRST, () -> refused(BAD, Bounds::noLot, y -> y.prove(13)));
        sentence(33, FIRST, () -> {
            refused(BAD, Bounds::busy, y -> y.worths(3, 3));
            refused(BAD, Bounds::busy, y -> y.worths(3, 0));
        });
        sentence(34, FIRST, () -> {
            refused(BAD, Bounds::busy, y -> y.sheet(4, 0, -1));
            refused(BAD, Bounds::busy, y -> y.sheet(0, 4, -1));
        });
        sentence(35, FIRST, () -> {
            refused(BAD, Bounds::busy, y -> y.put(4, -1, 0));
            refused(NOTHING, Bounds::busy, y -> y.put(3, -1, 0));
        });
        sentence(36, FIRST, () -> {
            refused(BAD, Bounds::busy, y -> y.item(3, 4, -1));
            refused(BAD, Bounds::busy, y -> y.item(0, 4, -1));
            refused(NOTHING, Bounds::busy, y -> y.item(3, 0, -1));
            refused(OTHER, Bounds::busy, y -> y.item(0, 1, -1));
        });
        sentence(38, FIRST, () -> {
            refused(BAD, Bounds::busy, y -> y.taken(3, 6));
            refused(BAD, Bounds::busy, y -> y.taken(1, 14));
        });
    }

    static void fractions() {
        String part = "without a common divisor, below above 0 (0 is 0 by 1)";
        sentence(22, part, () -> {
            good(1, "sayer age 1;proposal 6 worth -5;proposal 4 worth 0;");
            due(x.value(0, 1, 0), -3);
            due(x.value(0, 1, 1), 1);
            x.worth(0, 0, -1);
            due(x.value(0, 1, 0), -3);
            due(x.value(0, 1, 1), 5);
            due(x.value(0, 0, 1), 1);
        });
        sentence(23, part, () -> {
            good(1, "sayer age 1 noes 0;proposal 6 worth -1;proposal 4 worth 0;");
            due(x.best(0, 1, 0), -3);
            due(x.best(0, 1, 1), 5);
            due(x.best(0, 0, 0), 0);
            due(x.best(0, 0, 1), 1);
            x.noes(0, 9);
            due(x.best(0, 3, 0), 0);
            due(x.best(0, 3, 1), 1);
        });
        sentence(28, part, () -> {
            good(2, "quick age 1 noes 9;sayer age 1;proposal 6 worth -1,1;proposal 4 worth 0;");
            due(x.spoilt(1, 0), 3);
            due(x.spoilt(1, 1), 5);
            due(x.spoilt(2, 0), 6);
            due(x.spoilt(2, 1), 5);
            due(x.spoilt(0, 0), 0);
            due(x.spoilt(0, 1), 1);
            x.noes(0, 0);
            due(x.spoilt(3, 0), 0);
            due(x.spoilt(3, 1), 1);
        });
        sentence(24, "none comes, if all WEIGHTS are 0: then nothing is worth anything, YEARS go on", () -> {
            good(1, "sayer age 1;proposal 0 worth -1;proposal 0 worth 0;proposal 0 worth -9;");
            for (int n = 0; n <= 2; n++) {
                due(x.should(0, 0, n), 1);
                due(x.should(0, 1, n), 0);
            }
        });
        sentence(29, "Sets are told by bits.", () -> {
            good(6, times(6, "told age 1 bar 1;") + "proposal 1;");
            x.prove(2);
            due(x.row(0, 1), 63);
            due(x.row(1, 1), 0);
            due(x.says(0), 63);
        });
    }

    /** Calls that only look at things change nothing, whatever they answer. */
    static void looking() {
        Call[] looks = new Call[44];
        looks[5] = y -> y.personOf(0, 3);
        looks[13] = y -> y.proposalOf(0, -1);
        looks[15] = y -> y.law(3);
        looks[16] = y -> y.would(0);
        looks[17] = y -> y.says(1);
        looks[20] = y -> y.had(0);
        looks[22] = y -> y.value(0, 3, 0);
        looks[23] = y -> y.best(2, 3, 1);
        looks[24] = y -> y.should(0, 1, 2);
        looks[25] = y -> y.barOf(2, 2);
        looks[26] = y -> y.lets(2, 1);
        looks[27] = y -> y.harm(2);
        looks[28] = y -> y.spoilt(3, 1);
        looks[30] = y -> y.row(1, 1);
        looks[32] = y -> y.judge();
        looks[36] = y -> y.item(0, 0, 1);
        looks[38] = y -> y.taken(0, 1);
        looks[40] = y -> y.trace(1);
        looks[41] = y -> y.many(2);
        for (int i = 0; i < looks.length; i++) {
            if (looks[i] == null) continue;
            Call look = looks[i];
            sentence(i, "Nothing is promised beyond the answers and state changes described above", () -> {
                for (Setup before : new Setup[] {Bounds::busy, Bounds::full, Bounds::noLot}) {
                    LifeNoes with = new LifeNoes(), without = new LifeNoes();
                    before.on(with);
                    before.on(without);
                    look.on(with);
                    same(with, without);
                }
            });
        }
    }
}
