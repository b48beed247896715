/** Boundaries of promises 29 to 33: ROWS, THE READER, WORTHS of a SHEET. */
final class TheRows extends Bounds {
    static void hold() {
        prove();
        row();
        alterRow();
        judge();
        worths();
    }

    static void prove() {
        sentence(29, "ROWS by n: how many. BAD; NONE: all WEIGHTS are 0.", () -> {
            refusedOutside(1, 12, BAD, Bounds::busy, (y, v) -> y.prove(v));
            refused(NONE, Bounds::noLot, y -> y.prove(1));
            refused(NONE, Bounds::noLot, y -> y.prove(12));
            refused(NONE, Bounds::empty, y -> y.prove(1));
            // Bad and none at once: bad.
            refusedOutside(1, 12, BAD, Bounds::noLot, (y, v) -> y.prove(v));
            refusedOutside(1, 12, BAD, Bounds::empty, (y, v) -> y.prove(v));
        });
        sentence(29, "ROWS by n (1 to 12)", () -> {
            x.proposal(1);
            due(x.prove(1), 1);
            due(x.many(5), 1);
            due(x.row(0, 0), 0);
            due(x.row(1, 0), NO_ROW);
            due(x.prove(12), 12);
            due(x.many(5), 12);
            due(x.row(11, 0), 0);
            due(x.row(12, 0), NO_ROW);
            // Less of them than before: those behind are gone.
            due(x.prove(2), 2);
            due(x.many(5), 2);
            due(x.row(2, 0), NO_ROW);
        });
        sentence(29, "of the next n YEARS BY LOT, from z as it is (nothing changes).", () -> {
            Setup before = y -> { busy(y); y.prove(3); };
            LifeNoes with = new LifeNoes(), without = new LifeNoes();
            before.on(with);
            before.on(without);
            due(with.prove(12), 12);
            due(with.prove(3), 3);
            same(with, without);
            // Noes used up and grown back, the league's years, the lot: row by row as lot() does it then.
            busy(x);
            x.mind(3, 1, 0);
            x.noes(3, 2);
            x.set(1, 1);
            due(x.prove(12), 12);
            for (int i = 0; i < 12; i++) {
                int fell = x.many(3), noes = x.many(2);
                int drawn = x.row(i, 0), says = x.row(i, 1);
                due(x.says(drawn), says);
                due(x.lot(), drawn);
                due(x.many(3) - fell, x.row(i, 2));
            }
        });
        sentence(29, "(PROPOSAL, who say no as bits, 1 if it FALLS, else 0)", () -> {
            good(2, "quick age 1 noes 2;quick age 1;proposal 1 worth -1,-1;need 2;grow 3;");
            due(x.prove(4), 4);
            int[][] want = {{0, 3, 1}, {0, 1, 0}, {0, 0, 0}, {0, 3, 1}};
            for (int i = 0; i < 4; i++) for (int what = 0; what < 3; what++) due(x.row(i, what), want[i][what]);
        });
    }

    static void row() {
        sentence(30, "Of ROW i: what = 0 PROPOSAL, 1 who say no, 2 whether it FALLS. -9: there is none such, another what.", () -> {
            refusedOutside(0, 2, NO_ROW, Bounds::busy, (y, v) -> y.row(v, 0));
            refusedOutside(0, 2, NO_ROW, Bounds::busy, (y, v) -> y.row(0, v));
            refusedOutside(0, 11, NO_ROW, y -> { busy(y); y.prove(12); }, (y, v) -> y.row(v, 2));
            refused(NO_ROW, Bounds::empty, y -> y.row(0, 0));
            refused(NO_ROW, y -> { busy(y); y.village(); }, y -> y.row(0, 0));
        });
    }

    static void alterRow() {
        sentence(31, "It becomes v: what it was. -9 likewise.", () -> {
            refusedOutside(0, 2, NO_ROW, Bounds::busy, (y, v) -> y.alterRow(v, 0, 5));
            refusedOutside(0, 2, NO_ROW, Bounds::busy, (y, v) -> y.alterRow(0, v, 5));
            refusedOutside(0, 11, NO_ROW, y -> { busy(y); y.prove(12); }, (y, v) -> y.alterRow(v, 2, 5));
            refused(NO_ROW, Bounds::empty, y -> y.alterRow(0, 0, 0));
            // Any int may stand there; an answer below 0 is no refusal then.
            x.proposal(1);
            x.prove(12);
            for (int what = 0; what < 3; what++) {
                due(x.alterRow(11, what, MOST), 0);
                due(x.alterRow(11, what, LEAST), MOST);
                due(x.alterRow(11, what, -9), LEAST);
                due(x.row(11, what), -9);
                due(x.alterRow(11, what, 0), -9);
                due(x.row(11, what), 0);
                due(x.row(10, what), 0);
            }
        });
    }

    static void judge() {
        sentence(32, "0 all is right (also if there are none); else the first ROW that isn't, and 1 more. NONE: all WEIGHTS are 0.", () -> {
            refused(NONE, Bounds::noLot, y -> y.judge());
            refused(NONE, Bounds::empty, y -> y.judge());
            x.proposal(1);
            due(x.judge(), 0);
            for (int n : new int[] {1, 12}) {
                x.prove(n);
                due(x.judge(), 0);
                for (int i = n - 1; i >= 0; i -= 3) {
                    for (int what = 0; what < 3; what++) {
                        x.alterRow(i, what, what == 0 ? 1 : what == 1 ? 1 : LEAST);
                        due(x.judge(), i + 1);
                        x.alterRow(i, what, 0);
                        due(x.judge(), 0);
                    }
                }
            }
            // The first of several.
            x.alterRow(11, 0, 7);
            x.alterRow(4, 2, 7);
            x.alterRow(5, 1, 7);
            due(x.judge(), 5);
            x.alterRow(0, 1, 7);
            due(x.judge(), 1);
            // It only looks.
            due(x.row(0, 1), 7);
            due(x.law(3), 1);
            due(x.seed(1), 1);
        });
        sentence(32, "THE READER takes ROWS as those from now on: right is one that is as it must be.", () -> {
            good(1, "quick age 1;proposal 1 worth -1;grow 2;");
            x.prove(3);
            due(x.judge(), 0);
            // A row with a fault of mine, that is as it must be when things change.
            x.alterRow(0, 1, 0);
            x.alterRow(0, 2, 0);
            due(x.judge(), 1);
            x.noes(0, 0);
            due(x.judge(), 0);
            // Behind one year all is one year on; the row stays what it was.
            x.prove(1);
            x.comes(0);
            x.noes(0, 1);
            due(x.judge(), 1);
            x.noes(0, 0);
            due(x.judge(), 0);
            // The lot from another z.
            x.proposal(1);
            x.seed(5);
            x.prove(12);
            due(x.judge(), 0);
            due(x.seed(6), 5);
            due(x.judge() > 0 ? 1 : 0, 1);
            x.seed(5);
            due(x.judge(), 0);
        });
    }

    static void worths() {
        sentence(33, "BAD: no such PROPOSAL, SHEET; -11; -13.", () -> {
            // Sheet 0 holds bytes, 1 ints, 2 longs, 3 is missing.
            refusedOutside(0, 2, BAD, Bounds::busy, (y, v) -> y.worths(v, 1));
            refusedOutside(0, 3, BAD, Bounds::busy, (y, v) -> y.worths(0, v));
            refusedOutside(0, 7, BAD, Bounds::full, (y, v) -> y.worths(v, 1));
            refused(NOTHING, Bounds::busy, y -> y.worths(0, 3));
            refused(OTHER, Bounds::busy, y -> y.worths(0, 0));
            refused(OTHER, Bounds::busy, y -> y.worths(0, 2));
            refused(OTHER, y -> { busy(y); y.sheet(1, 1, 3); }, y -> y.worths(0, 1));
            // No such proposal, and a sheet that is missing, or of another sort: bad.
            refusedOutside(0, 2, BAD, Bounds::busy, (y, v) -> y.worths(v, 3));
            refusedOutside(0, 2, BAD, Bounds::busy, (y, v) -> y.worths(v, 0));
            refused(BAD, Bounds::empty, y -> y.worths(0, 0));
            refused(OTHER, y -> { busy(y); y.sheet(3, 3, 0); }, y -> y.worths(0, 3));
        });
        sentence(33, "(held to -9 to 9)", () -> {
            int[] items = {-9, -10, LEAST, 9, 10, MOST}, want = {1, 1, 1, 19, 19, 19};
            for (int p = 0; p < 6; p++) x.person(0, 0, 0, 0);
            x.proposal(1);
            x.sheet(0, 2, 6);
            for (int i = 0; i < 6; i++) x.put(0, i, items[i]);
            due(x.worths(0, 0), 6);
            for (int p = 0; p < 6; p++) due(x.proposalOf(0, p), want[p]);
            // The sheet stays as it is.
            for (int i = 0; i < 6; i++) due(x.item(0, 2, i), items[i]);
            for (int i = 0; i < 6; i++) x.put(0, i, i - 3);
            due(x.worths(0, 0), 6);
            for (int p = 0; p < 6; p++) due(x.proposalOf(0, p), 7 + p);
        });
        sentence(33, "as far as both go: how many.", () -> {
            x.proposal(1);
            x.proposal(1);
            x.sheet(3, 2, 40);
            for (int i = 0; i < 40; i++) x.put(3, i, 5);
            due(x.worths(1, 3), 0);
            for (int p = 0; p < 3; p++) x.person(0, 0, 0, 0);
            due(x.worths(1, 3), 3);
            for (int p = 0; p < 3; p++) {
                due(x.proposalOf(1, p), 15);
                due(x.proposalOf(0, p), 10);
            }
            for (int n : new int[] {0, 1, 2, 3, 4}) {
                for (int p = 0; p < 3; p++) x.worth(0, p, -1);
                x.sheet(3, 2, n);
                for (int i = 0; i < n; i++) x.put(3, i, 1 + i);
                due(x.worths(0, 3), Math.min(n, 3));
                for (int p = 0; p < 3; p++) due(x.proposalOf(0, p), p < n ? 11 + p : 9);
            }
            // One who comes later has 0 all the same.
            x.person(0, 0, 0, 0);
            due(x.proposalOf(0, 3), 10);
        });
    }
}
