/** Boundaries of promises 22 to 28: VALUE, AT BEST, HIS BAR, LETS, HARM, SPOILT. */
final class WhatIsAhead extends Bounds {
    static void hold() {
        value();
        valueOfYears();
        best();
        bestInTurn();
        should();
        barOf();
        lets();
        harm();
        spoilt();
    }

    static void fraction(long above, long gotAbove, long below, long gotBelow) {
        due(gotAbove, above);
        due(gotBelow, below);
    }

    static void valueIs(int p, int n, long above, long below) {
        fraction(above, x.value(p, n, 0), below, x.value(p, n, 1));
    }

    static void bestIs(int p, int n, long above, long below) {
        fraction(above, x.best(p, n, 0), below, x.best(p, n, 1));
    }

    static void spoiltIs(int n, long above, long below) {
        fraction(above, x.spoilt(n, 0), below, x.spoilt(n, 1));
    }

    static void value() {
        sentence(22, "VALUE of a PERSON, n (0 to 3) YEARS AHEAD. NO: not as told.", () -> {
            refusedOutside(0, 3, NO, Bounds::busy, (y, v) -> y.value(v, 1, 0));
            refusedOutside(0, 5, NO, Bounds::full, (y, v) -> y.value(v, 1, 0));
            refusedOutside(0, 3, NO, Bounds::busy, (y, v) -> y.value(0, v, 0));
            refusedOutside(0, 1, NO, Bounds::busy, (y, v) -> y.value(0, 1, v));
            refused(NO, Bounds::empty, y -> y.value(0, 0, 0));
            good(1, "sayer age 1;proposal 1 worth 5;");
            for (int n = 0; n <= 3; n++) valueIs(0, n, 5 * n, 1);
            // A person without any proposal.
            x.village();
            x.person(0, 0, 0, 0);
            for (int n = 0; n <= 3; n++) valueIs(0, n, 0, 1);
        });
        sentence(22, "NO (-1000000000000) stands for all refusals.", () -> {
            due(LifeNoes.NO, NO);
            due(x.value(0, 1, 0), LifeNoes.NO);
            // What other calls answer for a refusal is a number like others here.
            for (int worth : new int[] {-1, -2, -3, -4, -9}) {
                good(1, "sayer age 1;proposal 1 worth " + worth + ";");
                valueIs(0, 1, worth, 1);
                bestIs(0, 0, 0, 1);
            }
            good(1, "sayer age 1 noes 0;proposal 1 worth -9;");
            valueIs(0, 3, -27, 1);
            bestIs(0, 3, -27, 1);
        });
        sentence(22, "0 above the line, 1 below it, without a common divisor, below above 0 (0 is 0 by 1).", () -> {
            good(1, "sayer age 1;proposal 3 worth -4;proposal 3;");
            valueIs(0, 0, 0, 1);
            valueIs(0, 1, -2, 1);
            valueIs(0, 2, -4, 1);
            good(1, "sayer age 1;proposal 2 worth -3;proposal 4;");
            valueIs(0, 1, -1, 1);
            good(1, "sayer age 1;proposal 4 worth -3;proposal 2;");
            valueIs(0, 1, -2, 1);
            good(1, "sayer age 1;proposal 4 worth -1;proposal 2;");
            valueIs(0, 1, -2, 3);
            valueIs(0, 2, -4, 3);
            valueIs(0, 3, -2, 1);
            good(1, "sayer age 1;proposal 1 worth -5;proposal 1 worth 5;");
            for (int n = 0; n <= 3; n++) valueIs(0, n, 0, 1);
        });
    }

    static void valueOfYears() {
        sentence(22, "(none comes, if all WEIGHTS are 0: then nothing is worth anything, YEARS go on)", () -> {
            good(1, "quick age 1;proposal 0 worth 5;proposal 0 worth -5;");
            for (int n = 0; n <= 3; n++) {
                valueIs(0, n, 0, 1);
                bestIs(0, n, 0, 1);
                spoiltIs(n, 0, 1);
            }
            due(x.barOf(0, 1), 0);
            due(x.harm(1), 1);
            // Without proposals all weights are 0 too.
            good(1, "quick age 1;");
            for (int n = 0; n <= 3; n++) valueIs(0, n, 0, 1);
        });
        sentence(22, "in each a PROPOSAL comes by WEIGHTS, apart from each other", () -> {
            // What weighs 0 never comes, least of all may it use up a no.
            good(1, "quick age 1;proposal 0 worth -9;proposal 9 worth 1;");
            for (int n = 0; n <= 3; n++) valueIs(0, n, n, 1);
            // The same one may come again: -2 is stopped once, of 4 rows of two each one by one quarter.
            good(1, "quick age 1;proposal 1 worth -2;proposal 1;");
            valueIs(0, 1, 0, 1);
            valueIs(0, 2, -1, 2);
            // Years one after another: -2 * (1/2 + 1/4 * ...) of the third year: all but the first -2 are had.
            valueIs(0, 3, -5, 4);
            due(x.law(3), 1);
            due(x.personOf(0, 3), 1);
            due(x.had(0), 100000);
            // Proposals of an earlier village don't come any more, nor do people who left count.
            good(2, "sayer age 1;quick age 1 noes 9;proposal 9 worth 9,9;proposal 9 worth 5,-1;proposal 9 worth -5,1;");
            good(2, "sayer age 1;quick age 1 noes 9;proposal 1 worth 2,3;");
            valueIs(0, 3, 6, 1);
            bestIs(0, 3, 6, 1);
            spoiltIs(3, 0, 1);
            due(x.prove(12), 12);
            for (int i = 0; i < 12; i++) due(x.row(i, 0), 0);
        });
        sentence(22, "each time when the YEAR that is over is a multiple of it (above 0), each of those without NOES has 1.", () -> {
            good(1, "quick age 1;proposal 1 worth -1;");
            // Year 1 ahead falls; years 2 and 3 only where the no has grown back behind year 1, or 2.
            long[] values = {-2, 0, -1, -2};
            for (int grow = 0; grow <= 3; grow++) {
                x.set(2, grow);
                valueIs(0, 3, values[grow], 1);
                bestIs(0, 3, values[grow], 1);
            }
            // From year 2 on: GROW 3 helps year 4.
            x.set(2, 0);
            x.comes(0);
            x.noes(0, 1);
            x.set(2, 3);
            valueIs(0, 3, -1, 1);
            x.set(2, 2);
            valueIs(0, 3, -1, 1);
            x.set(2, 1);
            valueIs(0, 3, 0, 1);
        });
    }

    static void best() {
        sentence(23, "AT BEST likewise. NO.", () -> {
            refusedOutside(0, 3, NO, Bounds::busy, (y, v) -> y.best(v, 1, 0));
            refusedOutside(0, 5, NO, Bounds::full, (y, v) -> y.best(v, 1, 0));
            refusedOutside(0, 3, NO, Bounds::busy, (y, v) -> y.best(0, v, 0));
            refusedOutside(0, 1, NO, Bounds::busy, (y, v) -> y.best(0, 1, v));
            refused(NO, Bounds::empty, y -> y.best(0, 0, 0));
            good(1, "sayer age 1 noes 2;proposal 1 worth -5;");
            bestIs(0, 0, 0, 1);
            bestIs(0, 1, 0, 1);
            bestIs(0, 2, 0, 1);
            bestIs(0, 3, -5, 1);
        });
        sentence(23, "he says no or not (if he has NOES), as is best for what he has on average", () -> {
            // Without noes he can't, with one he can once; what is worth 0 or more he lets pass.
            good(1, "told age 1 bar 255 noes 0;proposal 1 worth -6;");
            bestIs(0, 1, -6, 1);
            x.noes(0, 1);
            bestIs(0, 1, 0, 1);
            bestIs(0, 2, -6, 1);
            x.noes(0, 9);
            bestIs(0, 3, 0, 1);
            x.worth(0, 0, 1);
            valueIs(0, 3, 0, 1);
            bestIs(0, 3, 3, 1);
            // As for the last no: keep it for what is worse, if that may yet come.
            good(1, "sayer age 1;proposal 1 worth -1;proposal 1 worth -9;");
            bestIs(0, 1, 0, 1);
            bestIs(0, 2, -3, 1);
            valueIs(0, 2, -10, 1);
        });
        sentence(23, "knowing what came so far", () -> {
            // Year 1: a no to -4 (then -2 on average), none to 0 (then 0 on average): not one of both fixed ahead.
            good(1, "sayer age 1;proposal 1 worth -4;proposal 1 worth 0;");
            bestIs(0, 2, -1, 1);
        });
        sentence(23, "whether one WOULD (wait, league) looks at him as at others", () -> {
            // Person 1 waits for person 0, who has noes, also when person 0 says nothing at best.
            good(2, "sayer age 1;wait age 1;proposal 1 worth -3,-2;");
            bestIs(1, 1, 0, 1);
            valueIs(1, 1, -2, 1);
            bestIs(0, 1, 0, 1);
            // Person 0 has used his up in year 1: then person 1 no longer waits, so year 2 falls too.
            bestIs(0, 2, 0, 1);
            x.noes(1, 0);
            bestIs(0, 2, -3, 1);
            // League: person 0 of the league has no turn in year 1, and may at best say it; he keeps his place.
            good(2, "league age 1;league age 1 noes 2;proposal 1 worth -3,0;");
            valueIs(0, 1, -3, 1);
            bestIs(0, 1, 0, 1);
        });
    }

    static void bestInTurn() {
        sentence(23, "in turn he is asked in his place, and says it if there are not yet NEED ahead of him.", () -> {
            // Two older ones and a younger one say it; he may not like to see it fall, nor could he be asked.
            good(4, "quick age 9;quick age 9;sayer age 9;quick age 1;proposal 1 worth -1,-1,-5,-1;turn;need 3;");
            // NEED 3: two ahead of him and one behind him; it falls with him or without.
            bestIs(2, 1, 0, 1);
            x.noes(3, 0);
            valueIs(2, 1, -5, 1);
            bestIs(2, 1, 0, 1);
            // NEED 2: the two ahead are enough, he keeps his for year 2.
            x.set(0, 2);
            bestIs(2, 1, 0, 1);
            bestIs(2, 2, -5, 1);
            x.set(0, 1);
            bestIs(2, 2, 0, 1);
            bestIs(2, 3, 0, 1);
            x.set(0, 3);
            bestIs(2, 2, -5, 1);
        });
    }

    static void should() {
        sentence(24, "n (0 to 2) YEARS AHEAD behind it: 1 if only so is best, else 0. BAD; NONE: he has no NOES.", () -> {
            refusedOutside(0, 3, BAD, Bounds::busy, (y, v) -> y.should(v, 0, 0));
            refusedOutside(0, 5, BAD, Bounds::full, (y, v) -> y.should(v, 0, 0));
            refusedOutside(0, 2, BAD, Bounds::busy, (y, v) -> y.should(0, v, 0));
            refusedOutside(0, 7, BAD, Bounds::full, (y, v) -> y.should(0, v, 0));
            refusedOutside(0, 2, BAD, Bounds::busy, (y, v) -> y.should(0, 0, v));
            refused(NONE, Bounds::busy, y -> y.should(1, 0, 0));
            refused(NONE, Bounds::busy, y -> y.should(1, 2, 2));
            // Person 1 has no noes: bad comes first all the same.
            refusedOutside(0, 2, BAD, Bounds::busy, (y, v) -> y.should(1, v, 0));
            refusedOutside(0, 2, BAD, Bounds::busy, (y, v) -> y.should(1, 0, v));
            refused(BAD, Bounds::empty, y -> y.should(0, 0, 0));
            refused(BAD, y -> y.person(0, 0, 0, 1), y -> y.should(0, 0, 0));
            refused(BAD, y -> y.proposal(1), y -> y.should(0, 0, 0));
        });
        sentence(24, "1 if only so is best, else 0", () -> {
            // Without years behind it: if it's worth less than 0 to him; at 0 both are best.
            good(1, "sayer age 1;proposal 1 worth -1;proposal 1 worth 0;proposal 1 worth 1;proposal 0 worth -9;");
            due(x.should(0, 0, 0), 1);
            due(x.should(0, 1, 0), 0);
            due(x.should(0, 2, 0), 0);
            due(x.should(0, 3, 0), 1);
            // -1 now or -1 with a third of chance later: now. As much now as surely later: both are best.
            due(x.should(0, 0, 1), 1);
            due(x.should(0, 0, 2), 1);
            good(1, "sayer age 1;proposal 1 worth -5;proposal 0 worth -4;proposal 0 worth -6;");
            for (int n = 0; n <= 2; n++) {
                due(x.should(0, 0, n), n == 0 ? 1 : 0);
                due(x.should(0, 1, n), n == 0 ? 1 : 0);
                due(x.should(0, 2, n), 1);
            }
            // With two noes, two years behind it are as many as needed, one is not.
            x.noes(0, 2);
            due(x.should(0, 1, 1), 1);
            due(x.should(0, 1, 2), 0);
            due(x.should(0, 0, 2), 0);
            due(x.should(0, 2, 2), 1);
            // When it falls, or passes, without him too, he keeps his no.
            good(2, "sayer age 1;quick age 1;proposal 1 worth -5,-1;");
            due(x.should(0, 0, 0), 0);
            x.set(0, 3);
            due(x.should(0, 0, 0), 0);
            x.set(0, 2);
            due(x.should(0, 0, 0), 1);
            x.noes(1, 0);
            due(x.should(0, 0, 0), 0);
        });
        sentence(24, "in turn he is asked in his place, and says it if there are not yet NEED ahead of him.", () -> {
            good(2, "quick age 5;sayer age 5;proposal 1 worth -1,-5;turn;need 2;");
            due(x.should(1, 0, 0), 1);
            x.set(0, 1);
            due(x.should(1, 0, 0), 0);
            due(x.should(1, 0, 2), 0);
            // The younger one behind him would say it: he need not.
            x.leave(0);
            x.person(1, 0, 4, 1);
            x.worth(0, 1, -1);
            due(x.should(0, 0, 0), 0);
            x.noes(1, 0);
            due(x.should(0, 0, 0), 1);
        });
    }

    static void barOf() {
        sentence(25, "HIS BAR by n (1, 2) YEARS AHEAD. BAD.", () -> {
            refusedOutside(0, 3, BAD, Bounds::busy, (y, v) -> y.barOf(v, 1));
            refusedOutside(0, 5, BAD, Bounds::full, (y, v) -> y.barOf(v, 1));
            refusedOutside(1, 2, BAD, Bounds::busy, (y, v) -> y.barOf(0, v));
            refused(BAD, Bounds::empty, y -> y.barOf(0, 1));
        });
        sentence(25, "the A (0 to 9) with which, as one of KIND bar, VALUE of a PERSON is greatest; of several the least.", () -> {
            // All are as good: 0.
            good(1, "told age 1 bar 255 noes 0;proposal 1 worth -9;");
            due(x.barOf(0, 1), 0);
            due(x.barOf(0, 2), 0);
            // A 9 alone is best: an older one says nothing (A 9), so that the younger one does, who else stops a 9.
            good(3, "sayer age 50;quick age 40;quick age 30 noes 9;proposal 1 worth -9,-1,-1;proposal 1 worth 9,-1;turn;");
            due(x.barOf(0, 2), 9);
            // With -8 in its place A 8 is enough, with -1 A 1.
            x.worth(0, 0, -8);
            due(x.barOf(0, 2), 8);
            x.worth(0, 0, -1);
            due(x.barOf(0, 2), 1);
            x.worth(0, 0, 0);
            due(x.barOf(0, 2), 0);
            // Whatever KIND and A he has; they stay.
            for (int kind = 0; kind < 6; kind++) {
                good(1, "sayer age 1;proposal 1 worth -1;proposal 1 worth -9;");
                x.mind(0, kind, 200);
                due(x.barOf(0, 1), 0);
                due(x.barOf(0, 2), 1);
                person(0, kind, 200, 1, 1);
            }
        });
    }

    static void lets() {
        sentence(26, "LETS: how many ahead (what 0), these as digits to the base 8, the first the lowest (1). BAD; NONE.", () -> {
            refusedOutside(0, 2, BAD, Bounds::busy, (y, v) -> y.lets(v, 0));
            refusedOutside(0, 7, BAD, Bounds::full, (y, v) -> y.lets(v, 0));
            refusedOutside(0, 1, BAD, Bounds::busy, (y, v) -> y.lets(0, v));
            refused(BAD, Bounds::empty, y -> y.lets(0, 0));
            Setup never = y -> { y.proposal(1); y.worth(0, y.person(1, 0, 0, 9), -1); };
            refused(NONE, never, y -> y.lets(0, 0));
            refused(NONE, never, y -> y.lets(0, 1));
            refusedOutside(0, 1, BAD, never, (y, v) -> y.lets(0, v));
            refusedOutside(0, 0, BAD, never, (y, v) -> y.lets(v, 0));
        });
        sentence(26, "the least number k (0 to 3) of PROPOSALS to be brought ahead (any, year by year, with any WEIGHTS)", () -> {
            // It itself may be among them, also with the weight 0.
            good(1, "quick age 1;proposal 0 worth -1;");
            for (int noes = 0; noes <= 3; noes++) {
                x.noes(0, noes);
                due(x.lets(0, 0), noes);
                due(x.lets(0, 1), 0);
            }
            x.noes(0, 4);
            due(x.lets(0, 0), NONE);
            due(x.lets(0, 1), NONE);
            // Nothing has changed by it.
            due(x.personOf(0, 3), 4);
            due(x.law(3), 1);
        });
        sentence(26, "such that a told one PASSES when it comes then; of several rows the first (the first PROPOSAL counts most).", () -> {
            // Only 6 and 7 use up noes, that one's of person 0, this one's of person 1; 5 needs both used up.
            good(2, "told age 1 bar 96;told age 1 bar 160;" + times(8, "proposal 1;"));
            due(x.lets(0, 0), 0);
            due(x.lets(0, 1), 0);
            // 5: bit 5 of 96 and 160; 6: bit 6 of 96; 7: bit 7 of 160. 5 itself uses up both.
            due(x.lets(5, 0), 1);
            due(x.lets(5, 1), 5);
            due(x.lets(6, 0), 1);
            due(x.lets(6, 1), 5);
            due(x.lets(7, 1), 5);
            // One no more for person 1: 5 5 comes ahead of 5 7 and 7 5.
            x.noes(1, 2);
            due(x.lets(5, 0), 2);
            due(x.lets(5, 1), 5 + 8 * 5);
        });
        sentence(26, "the first PROPOSAL counts most", () -> {
            // In turn 3 itself takes one no only; 1 takes that of person 0, 2 that of person 1.
            good(2, "told age 2 bar 10;told age 1 bar 12;proposal 1;proposal 0;proposal 0;proposal 1;turn;");
            due(x.lets(3, 0), 2);
            due(x.lets(3, 1), 1 + 8 * 2);
            due(x.lets(1, 1), 1);
            due(x.lets(2, 1), 2);
            // Three of them, of whom each has one of 1 to 3, and all have 4.
            good(3, "told age 3 bar 18;told age 2 bar 20;told age 1 bar 24;" + times(5, "proposal 1;") + "turn;");
            due(x.lets(4, 0), 3);
            due(x.lets(4, 1), 1 + 8 * 2 + 64 * 3);
            x.person(5, 16, 0, 1);
            due(x.lets(4, 0), NONE);
            due(x.lets(4, 1), NONE);
            // The highest digits.
            good(1, "told age 1 bar 128 noes 3;" + times(8, "proposal 9;"));
            due(x.lets(7, 0), 3);
            due(x.lets(7, 1), 511);
            due(x.lets(6, 0), 0);
        });
        sentence(26, "year by year", () -> {
            // The year goes on, whatever is brought: the league's turn is another one's then, noes grow back.
            good(2, "league age 1 noes 9;league age 1 noes 9;proposal 0 worth 0,-1;");
            due(x.lets(0, 0), 1);
            due(x.lets(0, 1), 0);
            // Years 1 to 4: with 2, with 1 (which grows back), with 1, with none.
            good(1, "quick age 1 noes 2;proposal 1 worth -1;grow 2;");
            due(x.lets(0, 0), 3);
            due(x.lets(0, 1), 0);
            x.noes(0, 1);
            due(x.lets(0, 0), 1);
            x.set(2, 1);
            due(x.lets(0, 0), NONE);
            // Of three in the league, of whom only the first one likes it: his turn is in year 3.
            good(3, times(3, "league age 1 noes 9;") + "proposal 0 worth 0,-1,-1;proposal 1;");
            due(x.lets(0, 0), 2);
            due(x.lets(0, 1), 0);
            x.comes(1);
            due(x.lets(0, 0), 1);
            x.comes(1);
            due(x.lets(0, 0), 0);
        });
    }

    static void harm() {
        sentence(27, "HARM by n (1, 2): 10 TURN and NEED. BAD.", () -> {
            refusedOutside(1, 2, BAD, Bounds::busy, (y, v) -> y.harm(v));
            refusedOutside(1, 2, BAD, Bounds::empty, (y, v) -> y.harm(v));
            due(x.harm(1), 1);
            due(x.harm(2), 1);
        });
        sentence(27, "of NEED 1 to 3 with TURN 0, then with TURN 1, that law with which VALUES of all PEOPLE together, n YEARS ahead, are greatest, of several the first.", () -> {
            // One of three dislikes it by 1, the others like it: it should pass, with NEED 2 or more.
            good(3, "quick age 1;quick age 1;quick age 1;proposal 1 worth -1,1,1;");
            due(x.harm(1), 2);
            due(x.harm(2), 2);
            // Two do: with NEED 3 alone.
            x.worth(0, 1, -1);
            x.worth(0, 2, 3);
            due(x.harm(1), 3);
            due(x.harm(2), 3);
            // All together dislike it: the first, NEED 1.
            x.worth(0, 2, 1);
            due(x.harm(1), 1);
            // Two years: all at once both noes are gone in year 1; in turn one is left for year 2: 10 + 1.
            due(x.harm(2), 11);
            // With two noes of each NEED 2 is as good, and NEED 1 comes first.
            x.noes(0, 2);
            x.noes(1, 2);
            due(x.harm(2), 1);
            // Four with one no each: in turn with NEED 2 as good as with NEED 1, which comes first.
            good(4, "quick age 1;quick age 1;quick age 1;quick age 1;proposal 1 worth -1,-1,-1,-1;turn;need 3;");
            due(x.harm(1), 1);
            due(x.harm(2), 11);
            // TURN 1 with NEED 2: 0 is to fall each year of two; 1, disliked by one alone, is to pass.
            good(5, times(5, "quick age 1;") + "proposal 1 worth -1,-1,-1,-1,-1;proposal 1 worth 9,9,9,9,-1;");
            due(x.harm(2), 12);
            // One who left is no more among all people.
            good(3, "quick age 1;sayer age 1;sayer age 1;proposal 1 worth -1,0,9;");
            due(x.harm(1), 2);
            due(x.leave(2), 2);
            due(x.harm(1), 1);
            // The laws stay as they are.
            due(x.law(0), 1);
            due(x.law(1), 0);
        });
    }

    static void spoilt() {
        sentence(28, "SPOILT by n (0 to 3). BAD.", () -> {
            refusedOutside(0, 3, BAD, Bounds::busy, (y, v) -> y.spoilt(v, 0));
            refusedOutside(0, 1, BAD, Bounds::busy, (y, v) -> y.spoilt(1, v));
            refusedOutside(0, 3, BAD, Bounds::empty, (y, v) -> y.spoilt(v, 0));
            for (int n = 0; n <= 3; n++) spoiltIs(n, 0, 1);
            good(3, "quick age 1 noes 2;sayer age 1;sayer age 1;proposal 1 worth -1,1,1;");
            for (int n = 0; n <= 3; n++) spoiltIs(n, Math.min(n, 2), 1);
            x.noes(0, 9);
            spoiltIs(3, 3, 1);
            x.proposal(1);
            spoiltIs(1, 1, 2);
            spoiltIs(2, 1, 1);
            spoiltIs(3, 3, 2);
        });
        sentence(28, "how many PROPOSALS fall on average, in n YEARS AHEAD, whose WORTH is above 0 to all PEOPLE but one.", () -> {
            good(3, "told age 1 bar 255 noes 9;sayer age 1;sayer age 1;proposal 1;");
            int[][] worths = {{0, 1, 1}, {-9, 9, 9}, {1, 0, 1}, {1, 1, -1}, {1, 1, 1}, {0, 0, 1}, {-1, 1, -1}, {0, 0, 0}, {1, 0, 0}};
            int[] spoilt = {1, 1, 1, 1, 0, 0, 0, 0, 0};
            for (int i = 0; i < worths.length; i++) {
                for (int p = 0; p < 3; p++) x.worth(0, p, worths[i][p]);
                spoiltIs(1, spoilt[i], 1);
            }
            // What passes is not spoilt.
            x.worth(0, 1, 1);
            x.worth(0, 0, 0);
            x.worth(0, 2, 1);
            spoiltIs(1, 1, 1);
            x.set(0, 2);
            spoiltIs(1, 0, 1);
            x.set(0, 1);
            // All but one of one are none: he alone must not have more than 0 of it.
            x.leave(2);
            x.leave(1);
            spoiltIs(1, 1, 1);
            x.worth(0, 0, 1);
            spoiltIs(1, 0, 1);
            x.leave(0);
            spoiltIs(1, 0, 1);
        });
    }
}
