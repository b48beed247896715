/** Boundaries of promises 1 to 3: a new object, THE TAPE and its TEXT. */
final class TheText extends Bounds {
    static void hold() {
        aNewObject();
        theTape();
        village();
        whatTheTextSets();
        names();
        numbers();
        blanks();
        statements();
        places();
        tooMany();
        ends();
    }

    static void aNewObject() {
        sentence(1, "No PEOPLE, no PROPOSALS; nothing is kept.", () -> {
            for (int what = 0; what < 8; what++) due(x.many(what), 0);
            due(x.personOf(0, 0), BAD);
            due(x.proposalOf(0, -1), BAD);
            due(x.leave(0), BAD);
            due(x.would(0), BAD);
            due(x.had(0), BAD);
            due(x.row(0, 0), NO_ROW);
            due(x.trace(0), NONE);
            due(x.again(), NONE);
        });
        sentence(1, "0 NEED (1 to 3; 1 at first)", () -> due(x.law(0), 1));
        sentence(1, "1 TURN (0 all at once, at first; 1 in turn)", () -> due(x.law(1), 0));
        sentence(1, "2 GROW (0 to 20; 0 at first)", () -> due(x.law(2), 0));
        sentence(1, "The YEAR is now (1 at first, 999 at most).", () -> due(x.law(3), 1));
        sentence(1, "z (an int; 1 at first)", () -> due(x.seed(0), 1));
        sentence(1, "40 at most, or missing (at first).", () -> {
            for (int s = 0; s < 4; s++) {
                for (int sort = 0; sort < 4; sort++) due(x.item(s, sort, 0), NOTHING);
            }
        });
        sentence(1, "a SHEET's row, or nothing (at first).", () -> {
            for (int s = 0; s < 4; s++) due(x.taken(s, 0), NOTHING);
        });
        sentence(1, "An object is used for at most 512 calls after it has been made", () -> {
            for (int call = 1; call < 512; call++) due(x.seed(call), call == 1 ? 1 : call - 1);
            due(x.seed(512), 511);
        });
    }

    static void theTape() {
        sentence(2, "n bytes (1 to 8) come to THE TAPE", () -> {
            due(x.feed(-1L, 1), 1);
            due(x.feed(-1L, 8), 9);
            refusedOutside(1, 8, BAD, Bounds::busy, (y, n) -> y.feed(32, n));
            // What is above the n bytes is not taken: else the 'x' behind them would be at fault.
            due(x.village(), -100);
            due(x.feed(0x78783b6e727574L, 5), 5);
            due(x.village(), 0);
            due(x.law(1), 1);
            due(x.feed(0x7820202020202020L, 7), 7);
            due(x.village(), 0);
            due(x.feed(0x7820202020202020L, 8), 8);
            due(x.village(), -107);
        });
        sentence(2, "the lowest of eight first", () -> {
            due(x.feed(0x3b6e727574202020L, 8), 8);
            due(x.village(), 0);
            due(x.law(1), 1);
            // The highest bit of a byte, and of all eight, is a bit like others.
            due(x.feed(0x8020202020202020L, 8), 8);
            due(x.village(), -107);
            due(x.feed(0x2020202020202080L, 8), 8);
            due(x.village(), -100);
            due(x.feed(0x20202020_A0202020L, 8), 8);
            due(x.village(), -103);
        });
        sentence(2, "THE TAPE takes bytes, 240 at most", () -> {
            for (int i = 1; i <= 29; i++) due(x.feed(0x2020202020202020L, 8), 8 * i);
            due(x.feed(0x2020202020202020L, 7), 239);
            due(x.feed(0x2020202020202020L, 1), 240);
            due(x.many(6), 240);
            due(x.village(), 0);
            for (int i = 1; i <= 30; i++) due(x.feed(0x2020202020202020L, 8), 8 * i);
            due(x.many(6), 240);
            // All of them are read.
            due(x.village(), 0);
            feed(x, times(239, " ") + "x");
            due(x.village(), -339);
        });
        sentence(2, "FULL: more than 240.", () -> {
            refusedOutside(1, 8, BAD, Bounds::full, (y, n) -> y.feed(32, n));
            for (int n = 1; n <= 8; n++) {
                int bytes = n;
                refused(FULL, Bounds::full, y -> y.feed(32, bytes));
                refused(FULL, y -> { busy(y); y.village(); feed(y, times(241 - bytes, " ")); }, y -> y.feed(32, bytes));
                due(fedOn(240 - bytes, bytes), 240);
            }
        });
        sentence(2, "village() uses it up", () -> {
            for (int i = 0; i < 30; i++) x.feed(0x2020202020202020L, 8);
            due(x.village(), 0);
            due(x.many(6), 0);
            due(x.feed(32, 8), 8);
            due(x.village(), -101);
            due(x.many(6), 0);
            due(x.village(), 0);
            // Nothing of a longer text stands behind a shorter one, whatever that ends with.
            String[] longer = {"need 1234;", "turnabout;", "turn;  x;", "quick age 1;;"};
            String[] shorter = {"need 1", "turn", "turn; ", "quick age 1;"};
            int[] first = {-105, -100, -107, -112}, then = {-106, -104, 0, 1};
            for (int i = 0; i < 4; i++) {
                due(village(longer[i]), first[i]);
                due(village(shorter[i]), then[i]);
            }
        });
    }

    static int fedOn(int ahead, int n) {
        LifeNoes y = new LifeNoes();
        feed(y, times(ahead, " "));
        return y.feed(32, n);
    }

    static void village() {
        sentence(3, "THE TAPE becomes THE VILLAGE: how many PEOPLE", () -> {
            due(x.village(), 0);
            busy(x);
            x.village();
            due(x.village(), 0);
            for (int what = 0; what < 7; what++) due(x.many(what), 0);
            due(x.law(3), 1);
            good(1, "quick age 1;");
            due(x.law(2), 0);
            good(6, times(6, "told age 1;"));
            good(0, "proposal 1;");
            due(x.many(1), 1);
        });
        sentence(3, "-100 less its FAULT.", () -> {
            fault("^x");
            fault(times(238, " ") + "^x");
            fault(times(239, " ") + "^x");
            fault(times(236, " ") + "turn^");
            fault(times(234, " ") + "need 1^");
            fault(times(232, " ") + "need 1 ^2");
            fault(times(233, " ") + "need  ^");
        });
        sentence(3, "There are no ROWS then; z stays.", () -> {
            busy(x);
            x.seed(-77);
            due(x.village(), 1);
            due(x.many(5), 0);
            due(x.row(0, 0), NO_ROW);
            due(x.seed(1), -77);
        });
        sentence(3, "such a call changes nothing (but that THE TAPE is used up by village())", () -> {
            // All but the tape is as before, ROWS too (fault() looks at everything).
            fault("told age 1 noes 3; proposal 2 worth -4; need 3; turn; grow 7; ^x");
            fault("^x");
            busy(x);
            x.feed(';', 1);
            x.feed(';', 1);
            due(x.village(), -111);
            due(x.many(6), 0);
            due(x.many(5), 3);
            due(x.many(0), 4);
            due(x.many(3) + x.many(4), 2);
        });
    }

    static void whatTheTextSets() {
        sentence(3, "(bar tells A; NOES are 1 if it isn't told)", () -> {
            good(6, "sayer age 0;quick age 99 bar 255;bar age 9 noes 0;wait age 10 bar 0 noes 9;league age 1;told age 2 bar 1;");
            person(0, 0, 0, 0, 1);
            person(1, 1, 255, 99, 1);
            person(2, 2, 0, 9, 0);
            person(3, 3, 0, 10, 9);
            person(4, 4, 0, 1, 1);
            person(5, 5, 1, 2, 1);
        });
        sentence(3, "W: [ - ] N, for PEOPLE told ahead, by numbers; others have 0.", () -> {
            busy(x);
            x.village();
            good(4, "told age 1;told age 1;proposal 1 worth -9,9;proposal 2 worth 7;told age 1;proposal 3;proposal 4 worth -0 , - 3,0;told age 1;");
            int[][] want = {{1, 1, 19, 10, 10}, {2, 17, 10, 10, 10}, {3, 10, 10, 10, 10}, {4, 10, 7, 10, 10}};
            for (int q = 0; q < 4; q++) for (int p = -1; p < 4; p++) due(x.proposalOf(q, p), want[q][p + 1]);
        });
        sentence(3, "PEOPLE, PROPOSALS are by it alone, LAWS as at first unless it tells them; YEAR 1.", () -> {
            full(x);
            x.set(0, 3);
            x.set(1, 1);
            x.set(2, 20);
            x.comes(0);
            due(x.village(), 0);
            for (int what = 0; what < 3; what++) due(x.many(what), 0);
            due(x.law(0), 1);
            due(x.law(1), 0);
            due(x.law(2), 0);
            due(x.law(3), 1);
            good(1, "told age 1;proposal 0;need 3;turn;grow 20;");
            due(x.law(0), 3);
            due(x.law(1), 1);
            due(x.law(2), 20);
            due(x.had(0), 100000);
            due(x.proposalOf(0, 0), 10);
            // What an earlier text told is not there for the next one, be it good or not.
            good(1, "told age 1;");
            due(x.law(0) + x.law(1) + x.law(2), 1);
            due(village("quick age 1;proposal 1 worth 5;need 3;turn;grow 3;x"), -150);
            good(0, "");
            due(x.law(0) + x.law(1) + x.law(2), 1);
            good(1, "proposal 1;sayer age 1;");
            due(x.proposalOf(0, 0), 10);
        });
    }

    static void names() {
        sentence(3, "NAMES are rows of letters a to z, NUMBERS rows of digits (1 to 3), both as long as they go", () -> {
            // The signs next to a, z, 0 and 9 are none of them.
            for (String sign : new String[] {"`", "{", "/", ":", "A", "Q", "\u00e1", "\u00f1", "\u0000", "\u00ff"}) {
                fault("^" + sign + "quick age 1;");
                fault("quick^" + sign + " age 1;");
                fault("quick age ^" + sign + "1;");
                fault("quick age 1^" + sign + ";");
            }
            fault("^qui ck age 1;");
            fault("^quickage 1;");
            fault("quick ^agebar 1;");
            fault("^turnturn;");
            fault("^turna;");
            fault("^turnz;");
            fault("quick ^agez 5;");
            fault("quick age 1 ^zbar 5;");
            fault("quick age 12^x;");
            fault("need 1 ^2;");
            fault("need 3^a;");
            // Where one ends by itself, the next may begin.
            good(1, "quick age5bar7noes3;proposal5worth-4;need2;grow4;");
            person(0, 1, 7, 5, 3);
            due(x.proposalOf(0, 0), 6);
        });
        sentence(3, "KIND: sayer | quick | bar | wait | league | told", () -> {
            String[] kinds = {"sayer", "quick", "bar", "wait", "league", "told"};
            for (int kind = 0; kind < 6; kind++) {
                good(1, kinds[kind] + " age 1;");
                due(x.personOf(0, 0), kind);
                fault("^" + kinds[kind] + "s age 1;");
                fault("^" + kinds[kind].substring(1) + " age 1;");
                fault("^" + kinds[kind].substring(0, kinds[kind].length() - 1) + " age 1;");
                fault(kinds[kind] + " ^" + kinds[kind] + " age 1;");
                fault("^x" + kinds[kind].substring(1) + " age 1;");
                fault("^" + kinds[kind].substring(0, kinds[kind].length() - 1) + "x age 1;");
            }
        });
    }

    static void numbers() {
        sentence(3, "a NUMBER out of range", () -> {
            good(1, "quick age 0;");
            good(1, "quick age 99;");
            fault("quick age ^100;");
            fault("quick age ^999;");
            fault("quick age ^-1;");
            good(1, "quick age 1 bar 0;");
            good(1, "quick age 1 bar 255;");
            due(x.personOf(0, 1), 255);
            fault("quick age 1 bar ^256;");
            fault("quick age 1 bar ^-1;");
            good(1, "quick age 1 noes 0;");
            good(1, "quick age 1 noes 9;");
            fault("quick age 1 noes ^10;");
            fault("quick age 1 noes ^-1;");
            good(0, "proposal 0;");
            good(0, "proposal 9;");
            fault("proposal ^10;");
            fault("proposal ^-1;");
            good(1, "quick age 1;proposal 1 worth 9;");
            good(1, "quick age 1;proposal 1 worth -9;");
            due(x.proposalOf(0, 0), 1);
            fault("quick age 1;proposal 1 worth ^10;");
            fault("quick age 1;proposal 1 worth -^10;");
            fault("quick age 1;proposal 1 worth - ^10;");
            fault("quick age 1;quick age 1;proposal 1 worth 9, ^10;");
            good(0, "need 1;");
            good(0, "need 3;");
            fault("need ^0;");
            fault("need ^4;");
            good(0, "grow 0;");
            good(0, "grow 20;");
            fault("grow ^21;");
        });
        sentence(3, "of more digits", () -> {
            good(1, "quick age 007 bar 000 noes 009;proposal 001 worth -002;need 003;grow 020;");
            person(0, 1, 0, 7, 9);
            due(x.proposalOf(0, -1), 1);
            due(x.proposalOf(0, 0), 8);
            due(x.law(0), 3);
            due(x.law(2), 20);
            fault("quick age ^0007;");
            fault("quick age 1 bar ^0001;");
            fault("quick age 1 noes ^0001;");
            fault("proposal ^0001;");
            fault("quick age 1;proposal 1 worth ^0001;");
            fault("quick age 1;proposal 1 worth -^0001;");
            fault("need ^0001;");
            fault("grow ^0001;");
            // Also of so many that an int can't hold them, or would hold a small one.
            fault("need ^4294967297;");
            fault("need ^" + times(200, "0") + "1;");
        });
    }

    static void blanks() {
        sentence(3, "blanks (32) part them, and stand elsewhere as one likes.", () -> {
            good(0, " ");
            good(0, times(240, " "));
            good(2, "   quick   age   1   bar   2   noes   3   ;   quick age 1;proposal   4   worth   -   5   ,   6   ;   need   2   ;   turn   ;   grow   3   ;   ");
            person(0, 1, 2, 1, 3);
            due(x.proposalOf(0, -1), 4);
            due(x.proposalOf(0, 0), 5);
            due(x.proposalOf(0, 1), 16);
            due(x.law(0) * 100 + x.law(1) * 10 + x.law(2), 213);
            // No other sign is a blank.
            for (String sign : new String[] {"\t", "\n", "\r", "\u001f", "!", "\u00a0", "\u0000"}) {
                fault("^" + sign);
                fault("quick^" + sign + "age 1;");
                fault("turn;^" + sign);
            }
            // A blank parts what would be one without it.
            fault("quick age 1 ^2;");
            fault("^t urn;");
            fault("quick age 1; proposal 1 worth 1 ^2;");
        });
    }

    static void statements() {
        sentence(3, "{ KIND age N [ bar N ] [ noes N ] ; | proposal N [ worth W { , W } ] ; | need N ; | turn ; | grow N ; }", () -> {
            good(0, "");
            good(1, "grow 1;grow 2;turn;turn;need 2;need 3;quick age 1;");
            due(x.law(0) * 100 + x.law(1) * 10 + x.law(2), 312);
            fault("^;");
            fault("turn;^;");
            fault("^1");
            fault("^-");
            fault("^,");
            fault("^age 1;");
            fault("^noes 1;");
            fault("^worth 1;");
            for (String name : new String[] {"xurn;", "turx;", "xeed 1;", "neex 1;", "xrow 1;", "grox 1;", "xroposal 1;", "proposax 1;"}) {
                fault("^" + name);
            }
            for (String name : new String[] {"xge 5;", "agx 5;", "ag 5;", "ages 5;"}) fault("quick ^" + name);
            for (String name : new String[] {"xar 1;", "bax 1;", "ba 1;", "xoes 1;", "noex 1;", "noe 1;"}) fault("quick age 1 ^" + name);
            for (String name : new String[] {"xorth 1;", "wortx 1;", "wort 1;", "worths 1;"}) fault("quick age 1;proposal 1 ^" + name);
        });
    }

    /** What may not stand at each place of a statement; what may stand there is taken by the tests above. */
    static void places() {
        sentence(3, "KIND age N [ bar N ] [ noes N ] ;", () -> {
            for (String other : new String[] {";", "1", "x", ",", "-", "quick", "bar", "noes", "proposal", "\u00ff"}) {
                fault("quick ^" + other + " 5;");
            }
            for (String other : new String[] {";", "x", ",", "-", "age", "bar", "noes 3", "turn;", "\u00ff"}) {
                fault("quick age ^" + other + " 5;");
                fault("quick age 1 bar ^" + other + " 5;");
                fault("quick age 1 noes ^" + other + " 5;");
                fault("quick age 1 bar 3 noes ^" + other + " 5;");
            }
            for (String other : new String[] {"1", "x", ",", "-", "age 1", "worth 1", "turn", "quick", "\u00ff"}) {
                fault("quick age 1 ^" + other + ";");
                fault("quick age 1 bar 1 ^" + other + ";");
                fault("quick age 1 noes 1 ^" + other + ";");
                fault("quick age 1 bar 1 noes 1 ^" + other + ";");
            }
            fault("quick age 1 bar 1 ^bar 1;");
            fault("quick age 1 noes 1 ^bar 1;");
            fault("quick age 1 noes 1 ^noes 1;");
            fault("quick age 1 bar 1 noes 1 ^noes 1;");
            fault("bar ^1 age 1;");
        });
        sentence(3, "proposal N [ worth W { , W } ] ;", () -> {
            String two = "quick age 1;quick age 1;";
            for (String other : new String[] {";", "x", ",", "-", "worth 1", "turn;", "\u00ff"}) {
                fault(two + "proposal ^" + other + ";");
            }
            for (String other : new String[] {"2", "x", ",1", "-1", "turn", "bar 1", "noes 1", "proposal 1", "\u00ff"}) {
                fault(two + "proposal 1 ^" + other + ";");
            }
            for (String other : new String[] {";", "x", ",", "worth", "\u00ff"}) {
                fault(two + "proposal 1 worth ^" + other + " 1;");
                fault(two + "proposal 1 worth -^" + other + " 1;");
                fault(two + "proposal 1 worth 1, ^" + other + " 1;");
                fault(two + "proposal 1 worth 1, -^" + other + " 1;");
            }
            fault(two + "proposal 1 worth -^-1;");
            for (String other : new String[] {"2", "x", "-1", "worth 1", "turn", "\u00ff"}) {
                fault(two + "proposal 1 worth 1 ^" + other + ";");
                fault(two + "proposal 1 worth 1,2 ^" + other + ";");
            }
        });
        sentence(3, "need N ;", () -> {
            for (String other : new String[] {";", "x", ",", "-1", "turn", "\u00ff"}) fault("need ^" + other + ";");
            for (String other : new String[] {"1", "x", ",", "-", "turn", "\u00ff"}) fault("need 1 ^" + other + ";");
        });
        sentence(3, "turn ;", () -> {
            for (String other : new String[] {"1", "x", ",", "-", "turn", "\u00ff"}) fault("turn ^" + other + ";");
        });
        sentence(3, "grow N ;", () -> {
            for (String other : new String[] {";", "x", ",", "-1", "turn", "\u00ff"}) fault("grow ^" + other + ";");
            for (String other : new String[] {"1", "x", ",", "-", "turn", "\u00ff"}) fault("grow 1 ^" + other + ";");
        });
    }

    static void tooMany() {
        sentence(3, "the first byte of a W for which there is no PERSON", () -> {
            fault("proposal 1 worth ^1;");
            fault("proposal 1 worth ^-1;");
            fault("proposal 1 worth ^- 10;");
            fault("proposal 1 worth ^0001;");
            fault("proposal 1 worth ^;");
            fault("proposal 1 worth ^,");
            // People told behind it are not told ahead.
            fault("proposal 1 worth ^1;quick age 1;");
            good(1, "quick age 1;proposal 1 worth 1;");
            fault("quick age 1;proposal 1 worth 1,^1;");
            fault("quick age 1;proposal 1 worth -1 , ^-1;");
            fault("quick age 1;proposal 1 worth 1,^;");
            good(6, times(6, "quick age 1;") + "proposal 1 worth 1,-2,3,-4,5,-6;");
            due(x.proposalOf(0, 5), 4);
            fault(times(6, "quick age 1;") + "proposal 1 worth 1,-2,3,-4,5,-6,^-7;");
        });
        sentence(3, "the first NAME of a seventh PERSON, of a ninth PROPOSAL", () -> {
            good(6, times(6, "wait age 1;"));
            fault(times(6, "wait age 1;") + " ^wait age 1;");
            fault(times(6, "wait age 1;") + "^bar");
            good(0, times(8, "proposal 1;"));
            due(x.many(1), 8);
            fault(times(8, "proposal 1;") + " ^proposal 1;");
            fault(times(8, "proposal 1;") + "^proposal");
            // Full of both, laws may be told yet.
            good(6, times(6, "told age 1;") + times(8, "proposal 1;") + "turn;need 2;");
            due(x.law(0) + x.law(1), 3);
        });
    }

    static void ends() {
        sentence(3, "or the end (how many bytes there are), if more must come.", () -> {
            String[] begun = {"quick", "quick age", "quick age 1", "quick age 1 bar", "quick age 1 bar 2", "quick age 1 noes",
                "quick age 1 noes 2", "quick age 1 bar 2 noes", "quick age 1 bar 2 noes 3", "proposal", "proposal 1",
                "proposal 1 worth", "need", "need 1", "turn", "grow", "grow 1"};
            for (String text : begun) {
                fault(text + "^");
                // Blanks at the end are bytes too.
                fault(text + "  ^");
            }
            for (String text : new String[] {"worth", "worth -", "worth 1", "worth 1,", "worth 1,-", "worth 1,2"}) {
                fault("sayer age 1;sayer age 1;proposal 1 " + text + "^");
                fault("sayer age 1;sayer age 1;proposal 1 " + text + "  ^");
            }
            fault("quick age 1;proposal 1 worth 1,^");
            fault("quick age 1;proposal 1 worth 1, ^");
            good(1, "quick age 1;");
            good(1, "quick age 1;  ");
        });
    }
}
