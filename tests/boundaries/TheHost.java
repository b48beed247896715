/** Boundaries of promises 34 to 41: SHEETS, SHELVES, ACTS, THE TRACE, how many. */
final class TheHost extends Bounds {
    static void hold() {
        sheet();
        put();
        item();
        shelf();
        taken();
        act();
        actsThatAreNone();
        numbersOfActs();
        trace();
        many();
    }

    static void sheet() {
        sentence(34, "A SHEET becomes a row of n of a sort, all 0, or missing (sort -1; n counts nothing then): 1.", () -> {
            for (int s = 0; s < 4; s++) {
                for (int sort = 0; sort < 4; sort++) {
                    for (int n : new int[] {1, 40}) {
                        due(x.sheet(s, sort, n), 1);
                        due(x.item(s, sort, n - 1), 0);
                        due(x.item(s, sort, n), OUTSIDE);
                        due(x.put(s, n - 1, 77), 1);
                        due(x.item(s, sort, n - 1), 77);
                        // All 0 again.
                        due(x.sheet(s, sort, n), 1);
                        due(x.item(s, sort, n - 1), 0);
                        due(x.put(s, 0, 77), 1);
                    }
                    due(x.sheet(s, sort, 0), 1);
                    due(x.item(s, sort, 0), OUTSIDE);
                }
                for (int n : new int[] {LEAST, -1, 0, 40, 41, MOST}) {
                    x.sheet(s, 2, 1);
                    due(x.sheet(s, -1, n), 1);
                    due(x.item(s, 2, 0), NOTHING);
                    due(x.put(s, 0, 0), NOTHING);
                }
            }
        });
        sentence(34, "BAD: no such SHEET, sort, n above 40; -14.", () -> {
            refusedOutside(0, 3, BAD, Bounds::busy, (y, v) -> y.sheet(v, 0, 1));
            refusedOutside(0, 3, BAD, Bounds::busy, (y, v) -> y.sheet(v, -1, 1));
            refusedOutside(-1, 3, BAD, Bounds::busy, (y, v) -> y.sheet(0, v, 1));
            for (int sort = 0; sort < 4; sort++) {
                int its = sort;
                refused(BAD, Bounds::busy, y -> y.sheet(0, its, 41));
                refused(BAD, Bounds::busy, y -> y.sheet(0, its, MOST));
                refused(BELOW, Bounds::busy, y -> y.sheet(0, its, -1));
                refused(BELOW, Bounds::busy, y -> y.sheet(0, its, LEAST));
            }
            // Bad, and a size below 0: bad.
            refusedOutside(0, 3, BAD, Bounds::busy, (y, v) -> y.sheet(v, 0, -1));
            refusedOutside(-1, 3, BAD, Bounds::busy, (y, v) -> y.sheet(0, v, -1));
        });
    }

    static void put() {
        sentence(35, "Item i becomes v, narrowed to its sort: 1. BAD: no such SHEET; -11; -12.", () -> {
            // Sheet 0 has 2 items, 1 has 3, 2 none, 3 is missing.
            refusedOutside(0, 3, BAD, Bounds::busy, (y, v) -> y.put(v, 0, 1));
            refusedOutside(0, 3, BAD, Bounds::busy, (y, v) -> y.put(v, -1, 1));
            refused(NOTHING, Bounds::busy, y -> y.put(3, 0, 1));
            // Missing, and a place outside: nothing.
            refusedOutside(0, 39, NOTHING, Bounds::busy, (y, v) -> y.put(3, v, 1));
            refusedOutside(0, 1, OUTSIDE, Bounds::busy, (y, v) -> y.put(0, v, 1));
            refusedOutside(0, 2, OUTSIDE, Bounds::busy, (y, v) -> y.put(1, v, 1));
            refusedOutside(0, -1, OUTSIDE, Bounds::busy, (y, v) -> y.put(2, v, 1));
            refusedOutside(0, 39, OUTSIDE, y -> { busy(y); y.sheet(3, 3, 40); }, (y, v) -> y.put(3, v, 1));
            // A row that was longer once.
            refused(OUTSIDE, y -> { busy(y); y.sheet(0, 0, 40); y.sheet(0, 0, 1); }, y -> y.put(0, 1, 1));
        });
        sentence(35, "narrowed to its sort", () -> {
            int[] puts = {127, 128, 255, 256, -128, -129, -256, 32767, 32768, 65535, 65536, -32768, -32769, -65536, MOST, LEAST, -1};
            int[] bytes = {127, -128, -1, 0, -128, 127, 0, -1, 0, -1, 0, 0, -1, 0, -1, 0, -1};
            int[] shorts = {127, 128, 255, 256, -128, -129, -256, 32767, -32768, -1, 0, -32768, 32767, 0, -1, 0, -1};
            for (int sort = 0; sort < 4; sort++) {
                x.sheet(sort, sort, 1);
                for (int i = 0; i < puts.length; i++) {
                    due(x.put(sort, 0, puts[i]), 1);
                    due(x.item(sort, sort, 0), sort == 0 ? bytes[i] : sort == 1 ? shorts[i] : puts[i]);
                }
            }
        });
    }

    static void item() {
        sentence(36, "BAD: no such SHEET, sort; -11; -13; -12.", () -> {
            refusedOutside(0, 3, BAD, Bounds::busy, (y, v) -> y.item(v, 0, 0));
            refusedOutside(0, 3, BAD, Bounds::busy, (y, v) -> y.item(0, v, 0));
            // Bad ahead of all others: of a missing sheet, and outside.
            refusedOutside(0, 3, BAD, Bounds::busy, (y, v) -> y.item(3, v, 0));
            refusedOutside(0, 3, BAD, Bounds::busy, (y, v) -> y.item(0, v, 9));
            for (int sort = 0; sort < 4; sort++) {
                int its = sort;
                refused(NOTHING, Bounds::busy, y -> y.item(3, its, 0));
                refused(NOTHING, Bounds::busy, y -> y.item(3, its, 40));
                if (sort != 0) refused(OTHER, Bounds::busy, y -> y.item(0, its, 0));
                if (sort != 2) refused(OTHER, Bounds::busy, y -> y.item(1, its, 2));
                if (sort != 3) refused(OTHER, Bounds::busy, y -> y.item(2, its, 0));
                // Of another sort, and outside: of another sort, as the promise names it first.
                if (sort != 2) refusedOutside(0, 2, OTHER, Bounds::busy, (y, v) -> y.item(1, its, v));
            }
            refusedOutside(0, 1, OUTSIDE, Bounds::busy, (y, v) -> y.item(0, 0, v));
            refusedOutside(0, 2, OUTSIDE, Bounds::busy, (y, v) -> y.item(1, 2, v));
            refusedOutside(0, -1, OUTSIDE, Bounds::busy, (y, v) -> y.item(2, 3, v));
            refusedOutside(0, 39, OUTSIDE, y -> y.sheet(3, 1, 40), (y, v) -> y.item(3, 1, v));
        });
        sentence(36, "Item i, taken for a sort (0 to 3; of longs the lowest 32 bits).", () -> {
            x.sheet(0, 3, 40);
            for (int v : new int[] {MOST, LEAST, -1, 0}) {
                for (int i : new int[] {0, 39}) {
                    x.put(0, i, v);
                    due(x.item(0, 3, i), v);
                }
            }
        });
        sentence(36, "(An item may be as low as these, too.)", () -> {
            for (int sort = 0; sort < 4; sort++) {
                x.sheet(sort, sort, 1);
                for (int v : new int[] {BAD, NOTHING, OTHER, OUTSIDE}) {
                    x.put(sort, 0, v);
                    due(x.item(sort, sort, 0), v);
                }
            }
        });
    }

    static void shelf() {
        sentence(37, "A SHELF holds PERSON n (what 0), the row of SHEET n (1; nothing, if missing), nothing (2): 1. BAD: no such SHELF, what, thing.", () -> {
            for (int what = 0; what < 3; what++) {
                int its = what;
                refusedOutside(0, 3, BAD, Bounds::busy, (y, v) -> y.shelf(v, its, 0));
                // Another shelf and another thing.
                if (what < 2) refusedOutside(0, 3, BAD, Bounds::busy, (y, v) -> y.shelf(v, its, -1));
            }
            refusedOutside(0, 2, BAD, Bounds::busy, (y, v) -> y.shelf(0, v, 0));
            refusedOutside(0, 3, BAD, Bounds::busy, (y, v) -> y.shelf(0, 0, v));
            refusedOutside(0, 5, BAD, Bounds::full, (y, v) -> y.shelf(0, 0, v));
            refusedOutside(0, 3, BAD, Bounds::busy, (y, v) -> y.shelf(0, 1, v));
            refused(BAD, Bounds::empty, y -> y.shelf(0, 0, 0));
            busy(x);
            for (int s = 0; s < 4; s++) {
                for (int p = 0; p < 4; p++) {
                    due(x.shelf(s, 0, p), 1);
                    due(x.taken(s, 0), p);
                }
                due(x.shelf(s, 1, 1), 1);
                due(x.taken(s, 12), 3);
                due(x.shelf(s, 1, 2), 1);
                due(x.taken(s, 13), 0);
                due(x.shelf(s, 1, 3), 1);
                due(x.taken(s, 13), NOTHING);
                for (int n : new int[] {LEAST, -1, 0, 99, MOST}) {
                    x.shelf(s, 0, 0);
                    due(x.shelf(s, 2, n), 1);
                    due(x.taken(s, 0), NOTHING);
                }
            }
        });
        sentence(37, "hold a PERSON (by its number; nothing, if there is no such one any more)", () -> {
            busy(x);
            x.shelf(0, 0, 3);
            x.shelf(1, 0, 0);
            due(x.taken(0, 5), 3);
            x.leave(1);
            // Number 3 is nobody now; whoever has number 0 is on shelf 1.
            due(x.taken(0, 0), NOTHING);
            due(x.act(0, 0, 1), 0);
            due(x.many(7), 0);
            due(x.taken(1, 1), 0);
            x.leave(0);
            due(x.taken(1, 4), 0);
            x.village();
            due(x.taken(1, 5), 0);
            x.village();
            due(x.taken(1, 0), NOTHING);
            due(x.taken(1, 13), NOTHING);
        });
        sentence(37, "a SHEET's row, or nothing", () -> {
            // A sheet that becomes another row, or is missing, later: the shelf holds the row that it was given.
            x.sheet(0, 1, 7);
            x.shelf(0, 1, 0);
            x.sheet(0, 2, 9);
            due(x.taken(0, 11), 7);
            due(x.taken(0, 12), OTHER);
            x.sheet(0, -1, 0);
            due(x.taken(0, 11), 7);
            // One that was missing then is nothing, also if the sheet is a row later.
            due(x.shelf(0, 1, 0), 1);
            x.sheet(0, 1, 7);
            due(x.taken(0, 11), NOTHING);
        });
    }

    static void taken() {
        sentence(38, "BAD: no such SHELF, as; -11; -13.", () -> {
            // Shelf 0 holds person 2, of the league; 1 three ints; 2 and 3 nothing.
            refusedOutside(0, 3, BAD, Bounds::busy, (y, v) -> y.taken(v, 0));
            refusedOutside(0, 3, BAD, Bounds::busy, (y, v) -> y.taken(v, 99));
            for (int s = 0; s < 4; s++) {
                int its = s;
                for (int as : new int[] {LEAST, -1, 6, 7, 8, 9, 14, MOST}) refused(BAD, Bounds::busy, y -> y.taken(its, as));
            }
            for (int as : new int[] {0, 5, 10, 13}) refused(NOTHING, Bounds::busy, y -> y.taken(2, as));
            for (int as : new int[] {2, 3, 5, 10, 13}) refused(OTHER, Bounds::busy, y -> y.taken(0, as));
            for (int as : new int[] {0, 2, 5, 10, 11, 13}) refused(OTHER, Bounds::busy, y -> y.taken(1, as));
        });
        sentence(38, "What a SHELF holds taken for a thing of KIND as (0 to 5, or one under it): its number", () -> {
            for (int p = 0; p < 6; p++) x.person(p, 0, 0, 0);
            boolean[][] under = new boolean[6][6];
            for (int kind = 0; kind < 6; kind++) under[kind][kind] = under[kind][0] = true;
            under[3][2] = under[4][1] = true;
            for (int kind = 0; kind < 6; kind++) {
                x.shelf(kind % 4, 0, kind);
                for (int as = 0; as < 6; as++) due(x.taken(kind % 4, as), under[kind][as] ? kind : OTHER);
            }
        });
        sentence(38, "for a row of sort as - 10 (as 10 to 13): how many items.", () -> {
            for (int sort = 0; sort < 4; sort++) {
                for (int n : new int[] {0, 1, 40}) {
                    x.sheet(0, sort, n);
                    x.shelf(3, 1, 0);
                    for (int as = 10; as <= 13; as++) due(x.taken(3, as), as == 10 + sort ? n : OTHER);
                }
            }
        });
    }

    /** Person p of a kind with an a, held by shelf 0: what the act answers. */
    static int acts(int p, int kind, int a, int act, int number) {
        x.mind(p, kind, a);
        x.shelf(0, 0, p);
        return x.act(0, act, number);
    }

    static void ran(int... numbers) {
        due(x.many(7), numbers.length);
        for (int i = 0; i < numbers.length; i++) due(x.trace(i), numbers[i]);
        due(x.trace(numbers.length), NONE);
    }

    static void sixPeople() {
        for (int p = 0; p < 6; p++) x.person(0, 0, 0, 0);
    }

    static void act() {
        sentence(39, "12 shares: x by (a - n), the rest away (-15 if these are the same; that is all that act() answers then).", () -> {
            sixPeople();
            due(acts(5, 0, 5, 2, 9), PARTED);
            ran(12);
            due(acts(5, 0, 5, 2, 0), PARTED);
            due(acts(0, 0, 0, 2, MOST), PARTED);
            due(acts(5, 0, 6, 2, 9), 9);
            due(acts(5, 0, 4, 2, 9), -9);
            // Quotients are cut towards 0.
            due(acts(5, 0, 7, 2, 9), 4);
            due(acts(5, 0, 7, 2, -9), -4);
            due(acts(5, 0, 3, 2, 9), -4);
            due(acts(5, 0, 3, 2, -9), 4);
            due(acts(5, 0, 7, 2, -1), 0);
            due(acts(5, 0, 255, 2, 249), 0);
            due(acts(5, 0, 255, 2, 250), 1);
            // Also where it is a part of another body.
            due(acts(2, 2, 2, 3, 7), PARTED);
            ran(31, 13, 11, 30, 10, 12);
            due(acts(2, 3, 2, 3, 7), PARTED);
            ran(31, 13, 41, 11, 40, 30, 10, 40, 30, 10, 12);
            due(acts(2, 4, 2, 2, 7), PARTED);
            ran(50, 12);
            due(acts(2, 5, 2, 2, 7), PARTED);
            ran(61, 12);
            // The next act is as if it hadn't been.
            due(acts(2, 5, 3, 2, 7), 12);
            ran(61, 12, 10);
            // What doesn't part is answered all the same.
            due(acts(2, 5, 2, 0, 7), 9);
            due(acts(2, 5, 2, 3, 7), 32);
        });
        sentence(39, "with a number x (ints that wrap)", () -> {
            sixPeople();
            due(acts(5, 0, 0, 0, MOST), LEAST + 4);
            due(acts(5, 0, 0, 1, MOST - 5), -2);
            due(acts(5, 0, 0, 1, LEAST), 10);
            due(acts(5, 1, 255, 1, LEAST - 5), 0 - 255);
            due(acts(0, 1, 255, 1, LEAST), -255);
            due(acts(0, 1, 1, 1, 1 << 30), MOST);
            due(acts(0, 2, 0, 0, MOST), MOST - 2);
            due(acts(0, 3, 0, 0, LEAST), LEAST);
            due(acts(5, 4, 0, 0, LEAST), LEAST);
            due(acts(0, 4, 1, 2, MOST), (LEAST + 1) ^ 1);
            due(acts(0, 5, 255, 3, 1 << 29), (1 << 31) + 510);
            // The least int by -1.
            due(acts(5, 0, 4, 2, LEAST), LEAST);
            due(acts(5, 4, 4, 2, LEAST - 2), LEAST ^ 1);
            due(acts(5, 5, 4, 2, LEAST), LEAST + 9);
        });
        sentence(39, "An ACT (0 to 3) of the thing on a SHELF, with x.", () -> {
            sixPeople();
            due(acts(3, 0, 7, 0, 10), 13);
            due(acts(3, 0, 7, 1, 10), 26);
            due(acts(3, 0, 7, 2, 10), 2);
            due(acts(3, 0, 7, 3, 10), 26 ^ 7);
            // What it answers may be below 0, as low as a refusal, or 0.
            due(acts(3, 0, 7, 0, -4), -1);
            due(acts(3, 0, 7, 0, -18), -15);
            ran(10);
            due(acts(3, 0, 7, 0, -3), 0);
            ran(10);
            // The same person on each shelf, and as he is now.
            for (int s = 0; s < 4; s++) {
                x.shelf(s, 0, 3);
                due(x.act(s, 0, 1), 4);
            }
            x.mind(3, 2, 7);
            for (int s = 0; s < 4; s++) due(x.act(s, 0, 1), 12);
            x.leave(0);
            x.mind(3, 2, 9);
            due(x.act(0, 2, 60), 10);
            x.leave(3);
            due(x.act(0, 2, 60), -20);
        });
    }

    static void actsThatAreNone() {
        sentence(39, "0, and no TRACE then: no such SHELF, act, nothing, a row.", () -> {
            // Shelf 0 holds a person, 1 a row, 2 and 3 nothing; each time there is a trace ahead of it.
            busy(x);
            int[][] none = {{-1, 0}, {4, 0}, {LEAST, 0}, {MOST, 0}, {0, -1}, {0, 4}, {0, LEAST}, {0, MOST}, {1, 0}, {1, 3}, {2, 0}, {3, 3}, {4, 4}};
            for (int[] call : none) {
                due(x.act(0, 3, 4), 6);
                due(x.many(7), 5);
                due(x.act(call[0], call[1], 4), 0);
                due(x.many(7), 0);
                due(x.trace(0), NONE);
            }
            // A person who is there no more is nothing.
            x.act(0, 3, 4);
            x.leave(0);
            x.leave(0);
            due(x.act(0, 0, 1), 0);
            due(x.many(7), 0);
            // Nothing else is changed by it.
            LifeNoes with = new LifeNoes(), without = new LifeNoes();
            busy(with);
            busy(without);
            with.act(3, 0, 1);
            with.act(0, 3, 4);
            same(with, without);
        });
    }

    static void numbersOfActs() {
        sentence(39, "ACTS of things, with a number x (ints that wrap): 0 bars, 1 waits, 2 shares, 3 tells.", () -> {
            // All kinds by all acts, n 2, a 5, x 7.
            int[][] want = {
                {9, 18, 2, 18 ^ 5},
                {9, 13, 2, 13 ^ 5},
                {27, 54, 2, (54 ^ 5) + 0},
                {-27, -54 - 12, 2, (-66 ^ 5) + 0},
                {7, 9, 3 ^ 1, 9 ^ 5},
                {9, 18, 2 + 7, (18 ^ 5) * 2},
            };
            sixPeople();
            for (int kind = 0; kind < 6; kind++) {
                for (int act = 0; act < 4; act++) due(acts(2, kind, 5, act, 7), want[kind][act]);
            }
            // shares(n) is 0 where a - n is more than n: here it is 2, and 2 by -1.
            due(acts(2, 2, 3, 3, 7), (54 ^ 3) + 2);
            due(acts(2, 3, 1, 3, 7), (-66 ^ 1) - 2);
        });
        sentence(39, "BODIES, each with its number", () -> {
            sixPeople();
            for (int kind = 0; kind < 6; kind++) {
                for (int act = 0; act < 4; act++) {
                    acts(2, kind, 5, act, 7);
                    ran(TheRest.RAN[kind][act]);
                }
            }
        });
    }

    static void trace() {
        sentence(40, "numbers of the bodies that ran in the latest act(), as they began (left first)", () -> {
            sixPeople();
            acts(2, 3, 5, 3, 7);
            ran(31, 13, 41, 11, 40, 30, 10, 40, 30, 10, 12);
            acts(2, 5, 5, 2, 7);
            ran(61, 12, 10);
            acts(2, 0, 5, 0, 7);
            ran(10);
        });
        sentence(40, "THE TRACE's i-th body. NONE.", () -> {
            refused(NONE, Bounds::empty, y -> y.trace(0));
            // It has 5 bodies.
            refusedOutside(0, 4, NONE, Bounds::busy, (y, v) -> y.trace(v));
            busy(x);
            due(x.trace(0), 13);
            due(x.trace(4), 10);
            // No other call touches it.
            x.leave(2);
            x.village();
            x.keep();
            x.again();
            due(x.trace(0), 13);
            due(x.many(7), 5);
        });
        sentence(40, "the first 30 are kept.", () -> {
            // The longest act of all has 11 bodies: none is lost, and nothing stands behind them.
            sixPeople();
            for (int kind = 0; kind < 6; kind++) {
                for (int act = 0; act < 4; act++) {
                    acts(1, kind, 5, act, 7);
                    int ran = x.many(7);
                    due(ran >= 1 && ran <= 11 ? 1 : 0, 1);
                    due(x.trace(ran - 1) > 0 ? 1 : 0, 1);
                    due(x.trace(ran), NONE);
                    due(x.trace(29), NONE);
                    due(x.trace(30), NONE);
                }
            }
        });
    }

    static void many() {
        sentence(41, "7 bodies of THE TRACE (those kept, 30 at most). BAD: another what.", () -> {
            refusedOutside(0, 7, BAD, Bounds::busy, (y, v) -> y.many(v));
            refusedOutside(0, 7, BAD, Bounds::empty, (y, v) -> y.many(v));
            full(x);
            int[] most = {6, 8, 54, 0, 0, 2, 240, 0};
            for (int what = 0; what < 8; what++) due(x.many(what), most[what]);
            x.prove(12);
            due(x.many(5), 12);
            for (int p = 0; p < 6; p++) x.noes(p, 0);
            due(x.many(2), 0);
            x.shelf(0, 0, 0);
            x.act(0, 1, 1);
            due(x.many(7), 2);
        });
        sentence(41, "3 PROPOSALS that FELL, 4 that PASSED", () -> {
            good(1, "quick age 1 noes 3;proposal 0 worth -1;proposal 1 worth 0;");
            int[] fell = {1, 2, 2, 2, 3, 3}, passed = {0, 0, 1, 2, 2, 3}, comes = {0, 0, 1, -1, 0, 0};
            for (int i = 0; i < 6; i++) {
                if (comes[i] < 0) x.lot();
                else x.comes(comes[i]);
                due(x.many(3), fell[i]);
                due(x.many(4), passed[i]);
            }
            // What is only looked at neither falls nor passes.
            x.prove(12);
            x.judge();
            x.value(0, 3, 0);
            x.best(0, 3, 0);
            x.lets(0, 0);
            x.harm(2);
            x.says(0);
            x.comes(9);
            due(x.many(3), 3);
            due(x.many(4), 3);
        });
    }
}
