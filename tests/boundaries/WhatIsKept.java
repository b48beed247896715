/** Boundaries of promises 42 and 43: what is kept, and what it becomes again. */
final class WhatIsKept extends Bounds {
    static void hold() {
        keep();
        again();
    }

    static void keep() {
        sentence(42, "All but THE TAPE, ROWS, SHEETS, SHELVES, THE TRACE is kept: 1.", () -> {
            // Nothing at all may be kept, too.
            due(x.keep(), 1);
            due(x.again(), 0);
            busy(x);
            due(x.keep(), 1);
            LifeNoes kept = new LifeNoes(), other = new LifeNoes();
            busy(kept);
            kept.keep();
            busy(other);
            other.keep();
            // All that is kept is altered, then had again: as if nothing had been.
            alterAll(other);
            due(other.again(), 4);
            same(other, kept);
            // Keeping changes nothing of what there is (the one that is kept latest aside).
            LifeNoes twice = new LifeNoes(), once = new LifeNoes();
            busy(twice);
            twice.keep();
            twice.keep();
            busy(once);
            once.keep();
            same(twice, once);
        });
        sentence(42, "THE TAPE, ROWS, SHEETS, SHELVES, THE TRACE", () -> {
            busy(x);
            x.keep();
            x.feed(32, 1);
            x.prove(7);
            x.alterRow(6, 1, -5);
            x.put(0, 0, 7);
            x.sheet(1, 1, 40);
            x.shelf(0, 0, 0);
            x.act(0, 0, 1);
            due(x.again(), 4);
            due(x.many(5), 7);
            due(x.row(6, 1), -5);
            due(x.many(6), 12);
            due(x.item(0, 0, 0), 7);
            due(x.item(1, 1, 39), 0);
            due(x.taken(0, 1), 0);
            due(x.many(7), 1);
            due(x.trace(0), 10);
        });
    }

    /** Whatever a village holds becomes another, each by its own call; the rest stays. */
    static void alterAll(LifeNoes y) {
        y.leave(1);
        y.person(3, 9, 9, 9);
        y.person(3, 9, 9, 9);
        y.mind(0, 5, 77);
        y.noes(0, 7);
        y.proposal(3);
        y.weigh(0, 8);
        for (int p = 0; p < 4; p++) y.worth(1, p, 9);
        y.set(0, 3);
        y.set(1, 1);
        y.set(2, 17);
        y.comes(0);
        y.comes(1);
        y.lot();
        y.seed(123456);
    }

    static void again() {
        sentence(43, "It becomes what was kept latest (which stays): how many PEOPLE. NONE: nothing is kept.", () -> {
            refused(NONE, Bounds::empty, y -> y.again());
            refused(NONE, Bounds::full, y -> y.again());
            refused(NONE, y -> { full(y); y.village(); }, y -> y.again());
            full(x);
            x.keep();
            for (int i = 0; i < 3; i++) {
                x.leave(0);
                x.village();
                x.seed(i);
                due(x.again(), 6);
                due(x.many(1), 8);
                due(x.many(2), 54);
                due(x.seed(5), 1);
            }
            // The latest one of two; what was kept ahead of it is gone.
            x.leave(5);
            x.keep();
            x.leave(4);
            due(x.again(), 5);
            x.village();
            x.keep();
            due(x.again(), 0);
            due(x.again(), 0);
            due(x.many(1), 0);
        });
        sentence(43, "(which stays)", () -> {
            // What is altered behind again() doesn't alter what is kept, nor does village().
            LifeNoes with = new LifeNoes(), without = new LifeNoes();
            busy(with);
            with.keep();
            with.again();
            alterAll(with);
            with.again();
            alterAll(with);
            with.again();
            busy(without);
            without.keep();
            same(with, without);
        });
        sentence(43, "nothing, if there is no such one any more", () -> {
            // A person of a shelf who is there no more is there again, when he is had again.
            busy(x);
            x.shelf(2, 0, 3);
            x.keep();
            x.leave(3);
            due(x.taken(2, 0), NOTHING);
            x.again();
            due(x.taken(2, 5), 3);
        });
    }
}
