/** Boundaries of promises 4 to 15: PEOPLE, PROPOSALS, LAWS. */
final class TheVillage extends Bounds {
    static void hold() {
        person();
        personOf();
        leave();
        mind();
        give();
        noes();
        proposal();
        weigh();
        worth();
        proposalOf();
        set();
        law();
    }

    /** Two people and two proposals. */
    static void two(LifeNoes y) {
        y.person(1, 2, 3, 4);
        y.person(5, 255, 99, 9);
        y.proposal(0);
        y.proposal(9);
        y.worth(0, 1, 9);
        y.worth(1, 0, -9);
    }

    static void person() {
        sentence(4, "PEOPLE, 6 at most, numbered as they come", () -> {
            for (int p = 0; p < 6; p++) due(x.person(p, p, p, p), p);
            for (int p = 0; p < 6; p++) person(p, p, p, p, p);
            due(x.many(0), 6);
            due(x.person(0, 0, 0, 0), FULL);
            due(x.leave(2), 5);
            due(x.person(0, 9, 9, 9), 5);
            due(x.person(0, 0, 0, 0), FULL);
        });
        sentence(4, "A PERSON: his number. BAD; FULL.", () -> {
            refused(FULL, Bounds::full, y -> y.person(0, 0, 0, 0));
            refused(FULL, Bounds::full, y -> y.person(5, 255, 99, 9));
            // Bad and full at once: bad.
            refusedOutside(0, 5, BAD, Bounds::full, (y, v) -> y.person(v, 0, 0, 0));
            refusedOutside(0, 255, BAD, Bounds::full, (y, v) -> y.person(0, v, 0, 0));
            refusedOutside(0, 99, BAD, Bounds::full, (y, v) -> y.person(0, 0, v, 0));
            refusedOutside(0, 9, BAD, Bounds::full, (y, v) -> y.person(0, 0, 0, v));
        });
        sentence(4, "a KIND: 0 sayer; 1 quick, 2 bar, 5 told (under sayer), 3 wait (under bar), 4 league (under quick)", () -> {
            due(x.person(0, 1, 1, 1), 0);
            due(x.person(5, 1, 1, 1), 1);
            person(0, 0, 1, 1, 1);
            person(1, 5, 1, 1, 1);
            refusedOutside(0, 5, BAD, Bounds::busy, (y, v) -> y.person(v, 0, 0, 0));
        });
        sentence(4, "A (0 to 255)", () -> {
            due(x.person(1, 0, 1, 1), 0);
            due(x.person(1, 255, 1, 1), 1);
            person(0, 1, 0, 1, 1);
            person(1, 1, 255, 1, 1);
            refusedOutside(0, 255, BAD, Bounds::busy, (y, v) -> y.person(0, v, 0, 0));
        });
        sentence(4, "AGE (0 to 99)", () -> {
            due(x.person(1, 1, 0, 1), 0);
            due(x.person(1, 1, 99, 1), 1);
            person(0, 1, 1, 0, 1);
            person(1, 1, 1, 99, 1);
            refusedOutside(0, 99, BAD, Bounds::busy, (y, v) -> y.person(0, 0, v, 0));
        });
        sentence(4, "NOES (0 to 9)", () -> {
            due(x.person(1, 1, 1, 0), 0);
            due(x.person(1, 1, 1, 9), 1);
            person(0, 1, 1, 1, 0);
            person(1, 1, 1, 1, 9);
            due(x.many(2), 9);
            refusedOutside(0, 9, BAD, Bounds::busy, (y, v) -> y.person(0, 0, 0, v));
        });
        sentence(4, "(-9 to 9; 0 at first, and to those who come later)", () -> {
            for (int q = 0; q < 8; q++) x.proposal(1);
            due(x.person(0, 0, 0, 0), 0);
            for (int q = 0; q < 8; q++) due(x.proposalOf(q, 0), 10);
            for (int q = 0; q < 8; q++) x.worth(q, 0, 9);
            x.comes(0);
            due(x.had(0), 100009);
            // One who comes with the number of another one who left has nothing of his.
            x.leave(0);
            due(x.person(0, 0, 0, 0), 0);
            for (int q = 0; q < 8; q++) due(x.proposalOf(q, 0), 10);
            due(x.had(0), 100000);
            for (int p = 1; p < 6; p++) x.person(0, 0, 0, 0);
            for (int q = 0; q < 8; q++) x.worth(q, 5, -9);
            x.leave(1);
            due(x.person(0, 0, 0, 0), 5);
            for (int q = 0; q < 8; q++) {
                due(x.proposalOf(q, 4), 1);
                due(x.proposalOf(q, 5), 10);
            }
        });
    }

    static void personOf() {
        sentence(5, "Of a PERSON: what = 0 KIND, 1 A, 2 AGE, 3 NOES. BAD.", () -> {
            two(x);
            person(0, 1, 2, 3, 4);
            person(1, 5, 255, 99, 9);
            refusedOutside(0, 1, BAD, TheVillage::two, (y, v) -> y.personOf(v, 0));
            refusedOutside(0, 3, BAD, TheVillage::two, (y, v) -> y.personOf(0, v));
            refusedOutside(0, 5, BAD, Bounds::full, (y, v) -> y.personOf(v, 0));
            refused(BAD, Bounds::empty, y -> y.personOf(0, 0));
            refused(BAD, y -> { two(y); y.leave(0); }, y -> y.personOf(1, 0));
        });
    }

    static void leave() {
        sentence(6, "A PERSON leaves: how many are left. BAD.", () -> {
            refusedOutside(0, 3, BAD, Bounds::busy, (y, v) -> y.leave(v));
            refusedOutside(0, 5, BAD, Bounds::full, (y, v) -> y.leave(v));
            refused(BAD, Bounds::empty, y -> y.leave(0));
            full(x);
            for (int left = 5; left >= 0; left--) due(x.leave(left / 2), left);
            due(x.leave(0), BAD);
            due(x.many(0), 0);
            due(x.many(2), 0);
        });
        sentence(6, "(when one leaves, those behind are one less)", () -> {
            for (int p = 0; p < 6; p++) {
                x.person(p, 20 + 2 * p, 20 + p, 1 + p);
            }
            x.proposal(0);
            x.proposal(0);
            for (int p = 0; p < 6; p++) x.worth(0, p, p);
            for (int p = 0; p < 6; p++) x.worth(1, p, -p);
            x.comes(0);
            int[] left = {0, 1, 2, 3, 4, 5};
            // One in the middle, the last one, the first one.
            for (int gone : new int[] {2, 4, 0}) {
                due(x.leave(gone), left.length - 1);
                int[] those = new int[left.length - 1];
                for (int i = 0; i < those.length; i++) those[i] = left[i < gone ? i : i + 1];
                left = those;
                for (int i = 0; i < left.length; i++) {
                    int p = left[i];
                    person(i, p, 20 + 2 * p, 20 + p, 1 + p);
                    due(x.had(i), 100000 + p);
                    due(x.proposalOf(0, i), 10 + p);
                    due(x.proposalOf(1, i), 10 - p);
                }
                due(x.personOf(left.length, 0), BAD);
            }
        });
    }

    static void mind() {
        sentence(7, "A PERSON has another KIND, another A: his KIND ahead of that. BAD.", () -> {
            two(x);
            due(x.mind(0, 0, 0), 1);
            person(0, 0, 0, 3, 4);
            due(x.mind(0, 5, 255), 0);
            person(0, 5, 255, 3, 4);
            due(x.mind(0, 5, 255), 5);
            due(x.mind(1, 3, 254), 5);
            person(0, 5, 255, 3, 4);
            person(1, 3, 254, 99, 9);
            refusedOutside(0, 3, BAD, Bounds::busy, (y, v) -> y.mind(v, 0, 0));
            refusedOutside(0, 5, BAD, Bounds::full, (y, v) -> y.mind(v, 0, 0));
            refusedOutside(0, 5, BAD, Bounds::busy, (y, v) -> y.mind(1, v, 200));
            refusedOutside(0, 255, BAD, Bounds::busy, (y, v) -> y.mind(1, 0, v));
            refused(BAD, Bounds::empty, y -> y.mind(0, 0, 0));
        });
    }

    static void give() {
        sentence(8, "One gives a NO to another one: how many that one has.", () -> {
            for (int noes : new int[] {1, 8, 0}) x.person(0, 0, 0, noes);
            due(x.give(0, 1), 9);
            person(0, 0, 0, 0, 0);
            person(1, 0, 0, 0, 9);
            due(x.give(1, 2), 1);
            due(x.give(2, 0), 1);
            due(x.give(1, 0), 2);
            due(x.many(2), 9);
        });
        sentence(8, "BAD: also the same; NONE: he has none; FULL: that one has 9.", () -> {
            Setup noes9and0 = y -> { busy(y); y.noes(0, 9); };
            // Person 0 and 2 have 9, person 1 has none, person 3 has 1.
            refused(BAD, noes9and0, y -> y.give(0, 0));
            refused(BAD, noes9and0, y -> y.give(1, 1));
            refused(BAD, noes9and0, y -> y.give(3, 3));
            refusedOutside(0, 3, BAD, noes9and0, (y, v) -> y.give(v, 2));
            refusedOutside(0, 3, BAD, noes9and0, (y, v) -> y.give(1, v));
            refusedOutside(0, 3, BAD, noes9and0, (y, v) -> y.give(v, v));
            refusedOutside(0, 5, BAD, Bounds::full, (y, v) -> y.give(v, 0));
            refusedOutside(0, 5, BAD, Bounds::full, (y, v) -> y.give(0, v));
            refused(NONE, noes9and0, y -> y.give(1, 3));
            refused(FULL, noes9and0, y -> y.give(3, 2));
            refused(FULL, noes9and0, y -> y.give(0, 2));
            // He has none, and that one has 9: the promise names NONE first.
            refused(NONE, noes9and0, y -> y.give(1, 0));
            refused(BAD, Bounds::empty, y -> y.give(0, 0));
            noes9and0.on(x);
            due(x.give(3, 1), 1);
            due(x.give(3, 1), NONE);
        });
    }

    static void noes() {
        sentence(9, "NOES of a PERSON become v: how many there were. BAD.", () -> {
            two(x);
            due(x.noes(0, 0), 4);
            due(x.noes(0, 9), 0);
            due(x.noes(0, 9), 9);
            due(x.noes(1, 1), 9);
            due(x.personOf(0, 3), 9);
            due(x.personOf(1, 3), 1);
            refusedOutside(0, 9, BAD, Bounds::busy, (y, v) -> y.noes(0, v));
            refusedOutside(0, 3, BAD, Bounds::busy, (y, v) -> y.noes(v, 5));
            refusedOutside(0, 5, BAD, Bounds::full, (y, v) -> y.noes(v, 5));
            refused(BAD, Bounds::empty, y -> y.noes(0, 0));
        });
    }

    static void proposal() {
        sentence(10, "PROPOSALS, 8 at most, numbered as they come", () -> {
            for (int q = 0; q < 8; q++) due(x.proposal(q), q);
            for (int q = 0; q < 8; q++) due(x.proposalOf(q, -1), q);
            due(x.many(1), 8);
            due(x.proposal(0), FULL);
        });
        sentence(10, "A PROPOSAL: its number. BAD; FULL.", () -> {
            refused(FULL, Bounds::full, y -> y.proposal(0));
            refused(FULL, Bounds::full, y -> y.proposal(9));
            refusedOutside(0, 9, BAD, Bounds::full, (y, v) -> y.proposal(v));
        });
        sentence(10, "WEIGHT (0 to 9)", () -> {
            due(x.proposal(0), 0);
            due(x.proposal(9), 1);
            due(x.proposalOf(0, -1), 0);
            due(x.proposalOf(1, -1), 9);
            refusedOutside(0, 9, BAD, Bounds::busy, (y, v) -> y.proposal(v));
        });
        sentence(10, "WORTH to each PERSON (-9 to 9; 0 at first", () -> {
            good(6, times(6, "sayer age 1;") + times(5, "proposal 1 worth 9,9,9,9,9,9;"));
            for (int p = 0; p < 6; p++) due(x.proposalOf(4, p), 19);
            due(x.proposal(1), 5);
            for (int p = 0; p < 6; p++) due(x.proposalOf(5, p), 10);
            // Also where another one had this number.
            good(1, "sayer age 1;");
            due(x.proposal(1), 0);
            due(x.proposalOf(0, 0), 10);
        });
    }

    static void weigh() {
        sentence(11, "WEIGHT of a PROPOSAL becomes v: what it was. BAD.", () -> {
            two(x);
            due(x.weigh(0, 9), 0);
            due(x.weigh(0, 0), 9);
            due(x.weigh(1, 5), 9);
            due(x.proposalOf(0, -1), 0);
            due(x.proposalOf(1, -1), 5);
            refusedOutside(0, 9, BAD, Bounds::busy, (y, v) -> y.weigh(0, v));
            refusedOutside(0, 2, BAD, Bounds::busy, (y, v) -> y.weigh(v, 5));
            refusedOutside(0, 7, BAD, Bounds::full, (y, v) -> y.weigh(v, 5));
            refused(BAD, Bounds::empty, y -> y.weigh(0, 0));
        });
    }

    static void worth() {
        sentence(12, "WORTH of a PROPOSAL to a PERSON becomes v: what it was, and 10 more. BAD.", () -> {
            two(x);
            due(x.worth(0, 0, -9), 10);
            due(x.worth(0, 0, 9), 1);
            due(x.worth(0, 0, 0), 19);
            due(x.worth(0, 1, -1), 19);
            due(x.worth(1, 0, 1), 1);
            due(x.worth(1, 1, 2), 10);
            due(x.proposalOf(0, 0), 10);
            due(x.proposalOf(0, 1), 9);
            due(x.proposalOf(1, 0), 11);
            due(x.proposalOf(1, 1), 12);
            refusedOutside(-9, 9, BAD, Bounds::busy, (y, v) -> y.worth(0, 0, v));
            refusedOutside(0, 2, BAD, Bounds::busy, (y, v) -> y.worth(v, 0, 1));
            refusedOutside(0, 3, BAD, Bounds::busy, (y, v) -> y.worth(0, v, 1));
            refusedOutside(0, 7, BAD, Bounds::full, (y, v) -> y.worth(v, 0, 1));
            refusedOutside(0, 5, BAD, Bounds::full, (y, v) -> y.worth(0, v, 1));
            refused(BAD, Bounds::empty, y -> y.worth(0, 0, 0));
            refused(BAD, y -> y.proposal(1), y -> y.worth(0, 0, 0));
            refused(BAD, y -> y.person(0, 0, 0, 0), y -> y.worth(0, 0, 0));
        });
    }

    static void proposalOf() {
        sentence(13, "WORTH of a PROPOSAL to a PERSON, and 10 more (p -1: its WEIGHT). BAD.", () -> {
            two(x);
            due(x.proposalOf(0, -1), 0);
            due(x.proposalOf(1, -1), 9);
            due(x.proposalOf(0, 0), 10);
            due(x.proposalOf(0, 1), 19);
            due(x.proposalOf(1, 0), 1);
            due(x.proposalOf(1, 1), 10);
            refusedOutside(-1, 1, BAD, TheVillage::two, (y, v) -> y.proposalOf(0, v));
            refusedOutside(0, 1, BAD, TheVillage::two, (y, v) -> y.proposalOf(v, -1));
            refusedOutside(0, 1, BAD, TheVillage::two, (y, v) -> y.proposalOf(v, 0));
            refusedOutside(-1, 5, BAD, Bounds::full, (y, v) -> y.proposalOf(0, v));
            refusedOutside(0, 7, BAD, Bounds::full, (y, v) -> y.proposalOf(v, 0));
            refused(BAD, Bounds::empty, y -> y.proposalOf(0, -1));
            refused(BAD, y -> y.proposal(1), y -> y.proposalOf(0, 0));
        });
    }

    static void set() {
        sentence(14, "0 NEED (1 to 3; 1 at first)", () -> {
            due(x.set(0, 3), 1);
            due(x.law(0), 3);
            due(x.set(0, 1), 3);
            due(x.law(0), 1);
            refusedOutside(1, 3, BAD, Bounds::busy, (y, v) -> y.set(0, v));
        });
        sentence(14, "1 TURN (0 all at once, at first; 1 in turn)", () -> {
            due(x.set(1, 1), 0);
            due(x.law(1), 1);
            due(x.set(1, 0), 1);
            due(x.law(1), 0);
            refusedOutside(0, 1, BAD, Bounds::busy, (y, v) -> y.set(1, v));
        });
        sentence(14, "2 GROW (0 to 20; 0 at first)", () -> {
            due(x.set(2, 20), 0);
            due(x.law(2), 20);
            due(x.set(2, 0), 20);
            due(x.law(2), 0);
            refusedOutside(0, 20, BAD, Bounds::busy, (y, v) -> y.set(2, v));
        });
        sentence(14, "A LAW becomes v: what it was. BAD.", () -> {
            // The YEAR is read by law(3), but no law that is set.
            refused(BAD, Bounds::busy, y -> y.set(3, 1));
            refused(BAD, Bounds::busy, y -> y.set(3, 3));
            refusedOutside(0, 2, BAD, Bounds::busy, (y, v) -> y.set(v, 1));
            x.set(0, 2);
            x.set(1, 1);
            x.set(2, 3);
            for (int law = 0; law < 3; law++) due(x.law(law), law == 0 ? 2 : law == 1 ? 1 : 3);
        });
    }

    static void law() {
        sentence(15, "A LAW (3: the YEAR). BAD.", () -> {
            x.proposal(0);
            x.comes(0);
            x.set(0, 3);
            x.set(2, 20);
            due(x.law(0), 3);
            due(x.law(1), 0);
            due(x.law(2), 20);
            due(x.law(3), 2);
            refusedOutside(0, 3, BAD, Bounds::busy, (y, v) -> y.law(v));
        });
    }
}
