/** For each promise what it asks for by ordinary calls, at its edges, and by wrong ones. */
public final class Promises {
    static int wrong = 0, promise = 0, made = 0;
    static LifeNoes x;

    static void begin(int number) {
        promise = number;
        made = 0;
        x = new LifeNoes();
    }

    static void due(long got, long want) {
        made++;
        if (got == want) return;
        wrong++;
        System.out.println("promise " + promise + ", answer " + made + ": " + got + ", due is " + want);
    }

    static int feedText(String text) {
        int has = x.many(6);
        for (int i = 0; i < text.length(); i += 8) {
            long eight = 0;
            int n = Math.min(8, text.length() - i);
            for (int j = 0; j < n; j++) eight |= (long) (text.charAt(i + j) & 255) << (8 * j);
            has = x.feed(eight, n);
        }
        return has;
    }

    static int village(String text) {
        feedText(text);
        return x.village();
    }

    static void fault(String text, int place) {
        due(village(text), -100 - place);
    }

    public static void main(String[] args) {
        aNewObject();
        theTape();
        theText();
        faults();
        people();
        proposals();
        laws();
        whoWould();
        whoSays();
        years();
        lots();
        values();
        bests();
        bars();
        letsAndHarm();
        spoils();
        rows();
        sheets();
        shelves();
        acts();
        counts();
        keeping();
        fullVillage();
        System.out.println(wrong == 0 ? "all promises hold" : wrong + " answers are not as promised");
        if (wrong != 0) System.exit(1);
    }

    static void aNewObject() {
        begin(1);
        for (int what = 0; what <= 7; what++) due(x.many(what), 0);
        due(x.again(), -3);
        due(x.law(0), 1);
        due(x.law(1), 0);
        due(x.law(2), 0);
        due(x.law(3), 1);
        due(x.seed(1), 1);
        due(x.personOf(0, 0), -1);
        due(x.proposalOf(0, -1), -1);
        for (int s = 0; s < 4; s++) {
            due(x.item(s, 0, 0), -11);
            due(x.taken(s, 0), -11);
        }
        due(LifeNoes.BAD, -1);
        due(LifeNoes.FULL, -2);
        due(LifeNoes.NONE, -3);
        due(LifeNoes.STATE, -4);
        due(LifeNoes.NO, -1000000000000L);
    }

    static void theTape() {
        begin(2);
        due(x.feed(0, 0), -1);
        due(x.feed(0, 9), -1);
        due(x.feed(0, -1), -1);
        due(x.feed(0, Integer.MIN_VALUE), -1);
        due(x.many(6), 0);
        due(x.feed(0x20203b6e727574L, 7), 7);
        due(x.village(), 0);
        due(x.law(1), 1);
        for (int i = 1; i <= 29; i++) due(x.feed(0x2020202020202020L, 8), 8 * i);
        due(x.feed(0x2020202020202020L, 7), 239);
        due(x.feed(0x2020202020202020L, 2), -2);
        due(x.many(6), 239);
        due(x.feed(';', 1), 240);
        due(x.feed(';', 1), -2);
        due(x.feed(';', 0), -1);
        due(x.village(), -339);
        due(x.many(6), 0);
        // A byte is one byte, also where its highest bit is 1.
        due(x.feed(-1L, 8), 8);
        due(x.village(), -100);
        due(x.feed(0x8000000000000020L, 8), 8);
        due(x.village(), -101);
    }

    static void theText() {
        begin(3);
        x.person(0, 0, 0, 0);
        x.proposal(1);
        x.prove(3);
        x.seed(77);
        x.comes(0);
        x.mind(0, 5, 1);
        x.noes(0, 1);
        x.comes(0);
        due(x.many(3), 1);
        due(x.many(4), 1);
        due(x.many(5), 3);
        due(village("sayer age 1;quick age 2 noes 0; bar age 0 bar 255 noes 9;wait age 99;league age 007;told age 5 bar 3;"
            + "proposal 0;proposal 9 worth -9 , - 0,9;need 3;need 2;turn;grow 20;"), 6);
        int[] kinds = {0, 1, 2, 3, 4, 5}, as = {0, 0, 255, 0, 0, 3}, ages = {1, 2, 0, 99, 7, 5}, noes = {1, 0, 9, 1, 1, 1};
        for (int p = 0; p < 6; p++) {
            due(x.personOf(p, 0), kinds[p]);
            due(x.personOf(p, 1), as[p]);
            due(x.personOf(p, 2), ages[p]);
            due(x.personOf(p, 3), noes[p]);
            due(x.had(p), 100000);
        }
        due(x.many(1), 2);
        due(x.proposalOf(0, -1), 0);
        due(x.proposalOf(0, 0), 10);
        due(x.proposalOf(1, -1), 9);
        due(x.proposalOf(1, 0), 1);
        due(x.proposalOf(1, 1), 10);
        due(x.proposalOf(1, 2), 19);
        due(x.proposalOf(1, 3), 10);
        due(x.law(0), 2);
        due(x.law(1), 1);
        due(x.law(2), 20);
        due(x.law(3), 1);
        due(x.many(5), 0);
        due(x.many(3) + x.many(4), 0);
        due(x.seed(0), 77);
        // What the text doesn't tell is as at first.
        due(village("quick age5noes2;"), 1);
        due(x.personOf(0, 3), 2);
        due(x.many(1), 0);
        due(x.law(0), 1);
        due(x.law(1), 0);
        due(x.law(2), 0);
        due(village("  "), 0);
        due(village("wait age 0 bar 0;"), 1);
        due(x.personOf(0, 1), 0);
        // Persons told behind a proposal have 0 of it.
        due(village("quick age 5;proposal 1 worth 4;quick age 5;grow 0;"), 2);
        due(x.proposalOf(0, 0), 14);
        due(x.proposalOf(0, 1), 10);
        // A fault changes nothing, but that the tape is used up.
        x.proposal(1);
        x.prove(2);
        x.comes(0);
        due(village("sayer age 1; need 3;x"), -120);
        due(x.many(0), 2);
        due(x.many(1), 2);
        due(x.many(5), 2);
        due(x.many(6), 0);
        due(x.law(0), 1);
        due(x.law(3), 2);
        due(village(""), 0);
    }

    static void faults() {
        begin(3);
        fault("Quick age 1;", 0);
        fault("quicke age 1;", 0);
        fault("xuick age 1;", 0);
        fault("quic age 1;", 0);
        fault("   7", 3);
        fault(" \t", 1);
        fault("quick", 5);
        fault("quick  ", 7);
        fault("quick;", 5);
        fault("quick 5", 6);
        fault("quick ages 5", 6);
        fault("quick age", 9);
        fault("quick age ;", 10);
        fault("quick age -1;", 10);
        fault("quick age 100;", 10);
        fault("quick age 0099;", 10);
        fault("quick age 1 2;", 12);
        fault("quick age 1 bar;", 15);
        fault("quick age 1 bar 256;", 16);
        fault("quick age 1 bar 1 bar 1;", 18);
        fault("quick age 1 noes 1 bar 1;", 19);
        fault("quick age 1 noes 10;", 17);
        fault("quick age 1 noes;", 16);
        fault("quick age 1 worth;", 12);
        fault("quick age 1 bar turn;", 16);
        fault("quick age 1 noes turn;", 17);
        fault("quick age turn;", 10);
        fault("proposal turn;", 9);
        fault("need turn;", 5);
        fault("quick age 1;proposal 1 worth turn;", 29);
        fault("quick age 1 turn;", 12);
        fault("quick age 1", 11);
        fault("quick age 1;;", 12);
        fault("proposal", 8);
        fault("proposal 10;", 9);
        fault("proposal -1;", 9);
        fault("proposal 1 worth", 16);
        fault("proposal 1 worth ;", 17);
        fault("proposal 1 worth -", 17);
        fault("quick age 1;proposal 1 worth -", 30);
        fault("quick age 1;proposal 1 worth ;", 29);
        fault("quick age 1;proposal 1 worth --1;", 30);
        fault("quick age 1;proposal 1 worth -10;", 30);
        fault("quick age 1;proposal 1 worth 0001;", 29);
        fault("quick age 1;proposal 1 worth 1 1;", 31);
        fault("quick age 1;proposal 1 worth 1, - 2;", 32);
        fault("quick age 1;proposal 1 worth 1,", 31);
        fault("quick age 1;proposal 1 worth 1 worth 1;", 31);
        fault("need;", 4);
        fault("need 0;", 5);
        fault("need 4;", 5);
        fault("need 1", 6);
        fault("grow 21;", 5);
        fault("grow", 4);
        fault("turn", 4);
        fault("turn 1;", 5);
        fault("turnneed 1;", 0);
        fault("noes 1;", 0);
        fault("age 1;", 0);
        fault("sayer age 1;sayer age 1;sayer age 1;sayer age 1;sayer age 1;sayer age 1;  bar", 74);
        fault("proposal 1;proposal 1;proposal 1;proposal 1;proposal 1;proposal 1;proposal 1;proposal 1;proposal 1;", 88);
        due(x.many(0), 0);
    }

    static void people() {
        begin(4);
        due(x.proposal(1), 0);
        due(x.person(-1, 0, 0, 0), -1);
        due(x.person(6, 0, 0, 0), -1);
        due(x.person(0, -1, 0, 0), -1);
        due(x.person(0, 256, 0, 0), -1);
        due(x.person(0, 0, -1, 0), -1);
        due(x.person(0, 0, 100, 0), -1);
        due(x.person(0, 0, 0, -1), -1);
        due(x.person(0, 0, 0, 10), -1);
        due(x.many(0), 0);
        due(x.person(5, 255, 99, 9), 0);
        for (int p = 1; p < 6; p++) due(x.person(p - 1, p, 10 * p, p), p);
        due(x.person(0, 0, 0, 0), -2);
        due(x.person(6, 0, 0, 0), -1);
        due(x.proposalOf(0, 5), 10);

        promise = 5;
        due(x.personOf(0, 0), 5);
        due(x.personOf(0, 1), 255);
        due(x.personOf(0, 2), 99);
        due(x.personOf(0, 3), 9);
        due(x.personOf(5, 0), 4);
        due(x.personOf(5, 1), 5);
        due(x.personOf(6, 0), -1);
        due(x.personOf(-1, 0), -1);
        due(x.personOf(0, 4), -1);
        due(x.personOf(0, -1), -1);

        promise = 6;
        for (int p = 0; p < 6; p++) x.worth(0, p, p + 1);
        x.noes(0, 0);
        x.comes(0);
        due(x.had(5), 100006);
        due(x.leave(6), -1);
        due(x.leave(-1), -1);
        due(x.leave(1), 5);
        for (int p = 1; p < 5; p++) {
            due(x.personOf(p, 0), p);
            due(x.personOf(p, 1), p + 1);
            due(x.personOf(p, 2), 10 * p + 10);
            due(x.personOf(p, 3), p + 1);
            due(x.proposalOf(0, p), p + 12);
            due(x.had(p), 100002 + p);
        }
        due(x.had(0), 100001);
        due(x.personOf(5, 0), -1);
        due(x.leave(5), -1);
        due(x.person(0, 0, 0, 0), 5);
        due(x.proposalOf(0, 5), 10);
        due(x.had(5), 100000);
        for (int p = 5; p >= 0; p--) due(x.leave(0), p);
        due(x.leave(0), -1);

        begin(7);
        x.person(1, 2, 3, 4);
        due(x.mind(0, 5, 255), 1);
        due(x.personOf(0, 0), 5);
        due(x.personOf(0, 1), 255);
        due(x.mind(0, 6, 0), -1);
        due(x.mind(0, -1, 0), -1);
        due(x.mind(0, 0, 256), -1);
        due(x.mind(0, 0, -1), -1);
        due(x.mind(1, 0, 0), -1);
        due(x.mind(-1, 0, 0), -1);
        due(x.mind(0, 5, 0), 5);
        due(x.personOf(0, 1), 0);
        due(x.personOf(0, 2), 3);
        due(x.personOf(0, 3), 4);

        begin(8);
        x.person(0, 0, 0, 2);
        x.person(0, 0, 0, 8);
        x.person(0, 0, 0, 0);
        due(x.give(0, 1), 9);
        due(x.personOf(0, 3), 1);
        due(x.give(0, 1), -2);
        due(x.give(2, 1), -3);
        due(x.give(2, 0), -3);
        due(x.give(0, 0), -1);
        due(x.give(2, 2), -1);
        due(x.give(0, 3), -1);
        due(x.give(3, 0), -1);
        due(x.give(-1, 0), -1);
        due(x.give(0, -1), -1);
        due(x.give(0, 2), 1);
        due(x.personOf(0, 3), 0);
        due(x.many(2), 10);

        promise = 9;
        due(x.noes(0, 9), 0);
        due(x.noes(0, 0), 9);
        due(x.noes(0, 10), -1);
        due(x.noes(0, -1), -1);
        due(x.noes(3, 1), -1);
        due(x.noes(-1, 1), -1);
        due(x.personOf(0, 3), 0);
    }

    static void proposals() {
        begin(10);
        x.person(0, 0, 0, 0);
        due(x.proposal(10), -1);
        due(x.proposal(-1), -1);
        for (int q = 0; q < 8; q++) due(x.proposal(q + 1), q);
        due(x.proposal(0), -2);
        due(x.proposal(10), -1);
        due(x.proposalOf(7, -1), 8);
        due(x.proposalOf(7, 0), 10);
        due(x.many(1), 8);

        promise = 11;
        due(x.weigh(7, 0), 8);
        due(x.weigh(7, 9), 0);
        due(x.weigh(7, 10), -1);
        due(x.weigh(7, -1), -1);
        due(x.weigh(8, 1), -1);
        due(x.weigh(-1, 1), -1);
        due(x.proposalOf(7, -1), 9);

        promise = 12;
        due(x.worth(7, 0, -9), 10);
        due(x.worth(7, 0, 9), 1);
        due(x.worth(7, 0, 10), -1);
        due(x.worth(7, 0, -10), -1);
        due(x.worth(8, 0, 0), -1);
        due(x.worth(-1, 0, 0), -1);
        due(x.worth(7, 1, 0), -1);
        due(x.worth(7, -1, 0), -1);

        promise = 13;
        due(x.proposalOf(7, 0), 19);
        due(x.proposalOf(6, 0), 10);
        due(x.proposalOf(7, -1), 9);
        due(x.proposalOf(7, 1), -1);
        due(x.proposalOf(7, -2), -1);
        due(x.proposalOf(8, -1), -1);
        due(x.proposalOf(-1, -1), -1);
    }

    static void laws() {
        begin(14);
        due(x.set(0, 3), 1);
        due(x.set(0, 1), 3);
        due(x.set(0, 0), -1);
        due(x.set(0, 4), -1);
        due(x.set(1, 1), 0);
        due(x.set(1, 0), 1);
        due(x.set(1, 2), -1);
        due(x.set(1, -1), -1);
        due(x.set(2, 20), 0);
        due(x.set(2, 21), -1);
        due(x.set(2, -1), -1);
        due(x.set(3, 1), -1);
        due(x.set(-1, 1), -1);
        due(x.set(2, 0), 20);
        due(x.law(2), 0);
        due(x.set(2, 4), 0);

        promise = 15;
        due(x.law(0), 1);
        due(x.law(1), 0);
        due(x.law(2), 4);
        due(x.law(3), 1);
        due(x.law(4), -1);
        due(x.law(-1), -1);
    }

    static void whoWould() {
        begin(16);
        due(x.would(0), -1);
        x.proposal(1);
        due(x.would(0), 0);
        due(x.would(1), -1);
        due(x.would(-1), -1);
        x.person(0, 0, 0, 1);
        x.person(1, 9, 0, 1);
        x.worth(0, 0, -9);
        due(x.would(0), 0);
        x.worth(0, 1, -1);
        due(x.would(0), 2);
        x.noes(1, 0);
        due(x.would(0), 0);
        // bar: below 0 less A.
        x.person(2, 3, 0, 1);
        x.worth(0, 2, -3);
        due(x.would(0), 0);
        x.worth(0, 2, -4);
        due(x.would(0), 4);
        // wait: only one with noes, and less worth, is waited for.
        x.leave(0);
        x.leave(0);
        x.mind(0, 3, 3);
        x.person(0, 0, 0, 0);
        x.worth(0, 1, -5);
        due(x.would(0), 1);
        x.noes(1, 1);
        due(x.would(0), 0);
        x.worth(0, 1, -4);
        due(x.would(0), 1);
        x.worth(0, 0, -3);
        x.worth(0, 1, 0);
        due(x.would(0), 0);
        // He who is waited for may be the first one.
        x.mind(0, 1, 0);
        x.mind(1, 3, 0);
        x.worth(0, 1, -2);
        due(x.would(0), 1);
        x.noes(0, 0);
        due(x.would(0), 2);
        x.mind(0, 0, 0);
        // told: the bit of the proposal, whatever its worth.
        x.mind(1, 5, 128);
        for (int q = 1; q < 8; q++) x.proposal(1);
        x.worth(7, 1, 9);
        due(x.would(7), 2);
        due(x.would(6), 0);
        due(x.would(0), 0);
        x.mind(1, 5, 1);
        due(x.would(0), 2);
        due(x.would(7), 0);

        begin(16);
        // league: in year 1 of two the second, of three with noes too; the one at the place needs worth below 0 himself.
        x.person(4, 0, 0, 1);
        x.person(1, 0, 0, 1);
        x.person(4, 0, 0, 1);
        x.person(4, 0, 0, 0);
        x.proposal(1);
        for (int p = 0; p < 4; p++) x.worth(0, p, -1);
        due(x.would(0), 6);
        x.worth(0, 2, 0);
        due(x.would(0), 2);
        x.noes(3, 1);
        due(x.would(0), 2);
        x.proposal(0);
        x.comes(1);
        due(x.would(0), 10);
        x.comes(1);
        due(x.would(0), 3);
        x.noes(2, 0);
        due(x.would(0), 10);
    }

    static void whoSays() {
        begin(17);
        due(x.says(0), -1);
        x.proposal(1);
        due(x.says(-1), -1);
        due(x.says(1), -1);
        due(x.says(0), 0);
        int[] ages = {20, 50, 30, 50, 99};
        for (int p = 0; p < 5; p++) {
            x.person(1, 0, ages[p], 1);
            if (p < 4) x.worth(0, p, -1);
        }
        due(x.says(0), 15);
        x.set(1, 1);
        due(x.says(0), 2);
        x.set(0, 2);
        due(x.says(0), 10);
        x.set(0, 3);
        due(x.says(0), 14);
        x.noes(1, 0);
        x.noes(3, 0);
        due(x.says(0), 5);
        x.set(0, 1);
        due(x.says(0), 4);
        x.noes(2, 0);
        x.person(1, 0, 20, 1);
        x.worth(0, 5, -1);
        due(x.says(0), 1);
        x.set(1, 0);
        due(x.says(0), 33);
    }

    static void years() {
        begin(18);
        due(x.comes(0), -1);
        x.proposal(1);
        due(x.comes(-1), -1);
        due(x.comes(1), -1);
        due(x.comes(0), 0);
        due(x.law(3), 2);
        x.person(1, 0, 10, 2);
        x.person(1, 0, 20, 1);
        x.person(0, 0, 30, 0);
        x.worth(0, 0, -2);
        x.worth(0, 1, -3);
        x.worth(0, 2, 7);
        due(x.comes(0), 1);
        due(x.personOf(0, 3), 1);
        due(x.personOf(1, 3), 0);
        due(x.had(2), 100000);
        x.set(0, 2);
        // One no is not enough; it is gone all the same.
        due(x.comes(0), 0);
        due(x.personOf(0, 3), 0);
        due(x.had(0), 99998);
        due(x.had(1), 99997);
        due(x.had(2), 100007);
        due(x.many(3), 1);
        due(x.many(4), 2);
        // Noes grow back at the end of years 4 and 6, only to those without.
        x.set(2, 2);
        x.noes(2, 5);
        due(x.law(3), 4);
        due(x.comes(0), 0);
        due(x.personOf(0, 3), 1);
        due(x.personOf(1, 3), 1);
        due(x.personOf(2, 3), 5);
        due(x.comes(0), 1);
        due(x.personOf(0, 3), 0);
        due(x.comes(0), 0);
        due(x.personOf(0, 3), 1);
        // He who says his last no in a year of growth has one again.
        x.set(2, 1);
        x.set(0, 1);
        x.set(1, 1);
        due(x.comes(0), 1);
        due(x.personOf(1, 3), 1);
        due(x.personOf(0, 3), 1);

        promise = 20;
        due(x.had(0), 99994);
        due(x.had(-1), -1);
        due(x.had(3), -1);
    }

    static void lots() {
        begin(19);
        due(x.lot(), -3);
        x.proposal(0);
        due(x.lot(), -3);
        due(x.law(3), 1);
        due(x.seed(1), 1);
        x.proposal(2);
        x.proposal(0);
        x.proposal(3);
        x.person(0, 0, 0, 0);
        x.worth(1, 0, 1);
        x.worth(3, 0, -1);
        int z = 1, had = 100000;
        for (int i = 0; i < 20; i++) {
            z = z * 1103515245 + 12345;
            int want = (z >>> 16) % 5 < 2 ? 1 : 3;
            had += want == 1 ? 1 : -1;
            due(x.lot(), want);
            due(x.had(0), had);
        }
        due(x.law(3), 21);

        promise = 21;
        due(x.seed(-5), z);
        due(x.seed(Integer.MIN_VALUE), -5);
        due(x.seed(0), Integer.MIN_VALUE);
        x.lot();
        due(x.seed(1), 12345);
    }

    /** One quick, who likes one of three by 5 and dislikes one of three by 2, the third one by 4. */
    static void dislikes() {
        x.person(1, 0, 0, 1);
        for (int q = 0; q < 3; q++) x.proposal(1);
        x.worth(0, 0, 5);
        x.worth(1, 0, -2);
        x.worth(2, 0, -4);
    }

    static void values() {
        begin(22);
        due(x.value(0, 1, 0), LifeNoes.NO);
        x.person(0, 0, 0, 0);
        due(x.value(0, 1, 0), 0);
        due(x.value(0, 1, 1), 1);
        x.leave(0);
        dislikes();
        due(x.value(0, 0, 0), 0);
        due(x.value(0, 0, 1), 1);
        due(x.value(0, 1, 0), 5);
        due(x.value(0, 1, 1), 3);
        // Year 2: 5/3 if his no is left (1 of 3), else -1/3.
        due(x.value(0, 2, 0), 2);
        due(x.value(0, 2, 1), 1);
        x.noes(0, 0);
        due(x.value(0, 3, 0), -1);
        due(x.value(0, 3, 1), 1);
        x.set(2, 1);
        due(x.value(0, 3, 0), 3);
        // Each year ahead has its number: from year 2 on noes grow at the end of year 3.
        x.comes(0);
        x.noes(0, 1);
        x.set(2, 3);
        due(x.value(0, 3, 0), 11);
        due(x.value(0, 3, 1), 3);
        x.set(2, 2);
        due(x.value(0, 2, 0), 10);
        due(x.value(0, 2, 1), 3);
        due(x.value(0, 4, 0), LifeNoes.NO);
        due(x.value(0, -1, 0), LifeNoes.NO);
        due(x.value(0, 1, 2), LifeNoes.NO);
        due(x.value(0, 1, -1), LifeNoes.NO);
        due(x.value(1, 1, 0), LifeNoes.NO);
        due(x.value(-1, 1, 0), LifeNoes.NO);
        due(x.law(3), 2);
        due(x.had(0), 100005);
        due(village("quick age 1; proposal 1 worth 4;"), 1);
        due(x.value(0, 2, 0), 8);
        due(x.value(0, 2, 1), 1);
    }

    static void bests() {
        begin(23);
        due(x.best(0, 1, 0), LifeNoes.NO);
        dislikes();
        due(x.best(0, 0, 0), 0);
        due(x.best(0, 0, 1), 1);
        due(x.best(0, 1, 0), 5);
        due(x.best(0, 1, 1), 3);
        // Year 1: 5 + 5/3; of -2 a no or none, -1/3 both; of -4 a no, -1/3: 6 in all, by 3.
        due(x.best(0, 2, 0), 2);
        due(x.best(0, 2, 1), 1);
        // With three years ahead the no is kept for the -4.
        due(x.best(0, 3, 0), 19);
        due(x.best(0, 3, 1), 9);
        x.noes(0, 0);
        due(x.best(0, 2, 0), -2);
        due(x.best(0, 2, 1), 3);
        x.comes(0);
        x.noes(0, 1);
        x.set(2, 3);
        due(x.best(0, 3, 0), 11);
        due(x.best(0, 3, 1), 3);
        x.noes(0, 0);
        x.set(2, 0);
        due(x.best(0, 4, 0), LifeNoes.NO);
        due(x.best(0, -1, 0), LifeNoes.NO);
        due(x.best(0, 1, 2), LifeNoes.NO);
        due(x.best(1, 1, 0), LifeNoes.NO);
        // A sayer at best says it, a told one does not as he is told.
        x.mind(0, 0, 0);
        x.noes(0, 1);
        due(x.value(0, 1, 0), -1);
        due(x.best(0, 1, 0), 5);
        x.mind(0, 5, 1);
        due(x.best(0, 1, 0), 5);

        begin(24);
        due(x.should(0, 0, 0), -1);
        dislikes();
        due(x.should(0, 0, 0), 0);
        due(x.should(0, 1, 0), 1);
        due(x.should(0, 2, 0), 1);
        due(x.should(0, 1, 1), 0);
        due(x.should(0, 2, 1), 1);
        due(x.should(0, 1, 2), 0);
        due(x.should(0, 2, 2), 1);
        due(x.should(0, 2, 3), -1);
        due(x.should(0, 2, -1), -1);
        due(x.should(0, 3, 1), -1);
        due(x.should(0, -1, 1), -1);
        due(x.should(1, 1, 1), -1);
        due(x.should(-1, 1, 1), -1);
        x.noes(0, 0);
        due(x.should(0, 2, 1), -3);
        due(x.should(0, 2, 3), -1);
        // Nothing comes behind it when all weights are 0.
        x.noes(0, 1);
        for (int q = 0; q < 3; q++) x.weigh(q, 0);
        due(x.should(0, 1, 2), 1);
        due(x.should(0, 0, 2), 0);
        // In turn somebody ahead of him says it for him, then he keeps his.
        x.person(1, 0, 5, 1);
        x.worth(1, 1, -1);
        due(x.should(0, 1, 0), 0);
        x.set(1, 1);
        due(x.should(0, 1, 0), 0);
        x.set(0, 2);
        due(x.should(0, 1, 0), 1);
    }

    static void bars() {
        begin(25);
        due(x.barOf(0, 1), -1);
        dislikes();
        due(x.barOf(0, 1), 0);
        // Two years: a no to both is worth 18/9 (A 0 and 1), one to -4 alone 14/9: the least A of the best.
        due(x.barOf(0, 2), 0);
        x.worth(1, 0, -1);
        x.worth(2, 0, -9);
        due(x.barOf(0, 1), 0);
        due(x.barOf(0, 2), 1);
        due(x.barOf(0, 0), -1);
        due(x.barOf(0, 3), -1);
        due(x.barOf(1, 1), -1);
        due(x.barOf(-1, 1), -1);
        due(x.personOf(0, 0), 1);
        due(x.personOf(0, 1), 0);
        // He had better let a younger one say it: then that one has none left against what he likes.
        due(village("sayer age 50;quick age 40;quick age 30 noes 9;proposal 1 worth -9,-1,-1;proposal 1 worth 9,-1;turn;"), 3);
        due(x.barOf(0, 2), 9);
        due(x.barOf(0, 1), 0);
    }

    static void letsAndHarm() {
        begin(26);
        due(x.lets(0, 0), -1);
        x.person(1, 0, 0, 2);
        x.proposal(0);
        x.proposal(0);
        x.worth(0, 0, 5);
        due(x.lets(0, 0), 0);
        due(x.lets(0, 1), 0);
        x.worth(1, 0, -1);
        due(x.lets(1, 0), 2);
        due(x.lets(1, 1), 9);
        x.proposal(3);
        x.worth(2, 0, -1);
        due(x.lets(2, 0), 2);
        due(x.lets(2, 1), 9);
        x.worth(0, 0, 0);
        x.worth(1, 0, 0);
        x.proposal(0);
        x.worth(3, 0, -2);
        x.noes(0, 1);
        due(x.lets(3, 0), 1);
        due(x.lets(3, 1), 2);
        x.noes(0, 3);
        due(x.lets(3, 0), 3);
        due(x.lets(3, 1), 2 + 8 * 2 + 64 * 2);
        x.noes(0, 4);
        due(x.lets(3, 0), -3);
        due(x.lets(3, 1), -3);
        due(x.lets(3, 2), -1);
        due(x.lets(3, -1), -1);
        due(x.lets(4, 0), -1);
        due(x.lets(-1, 0), -1);
        // The year goes on too: of two in the league, who dislike other things, it's the other one's turn.
        x.mind(0, 4, 0);
        x.person(4, 0, 0, 1);
        x.worth(3, 0, 0);
        x.worth(3, 1, -1);
        due(x.lets(3, 0), 1);
        due(x.lets(3, 1), 0);

        due(village("league age 1 noes 2;league age 1 noes 2;league age 1 noes 2;proposal 0 worth -1,0,-1;proposal 0;"), 3);
        x.comes(1);
        x.comes(1);
        due(x.lets(0, 0), 1);
        due(x.lets(0, 1), 0);

        begin(27);
        due(x.harm(0), -1);
        due(x.harm(3), -1);
        due(x.harm(1), 1);
        due(x.harm(2), 1);
        // Three quick ones dislike what a fourth one likes less than they dislike it: a fall is best.
        for (int p = 0; p < 4; p++) x.person(1, 0, p, 1);
        x.proposal(1);
        for (int p = 0; p < 3; p++) x.worth(0, p, -1);
        x.worth(0, 3, 2);
        due(x.harm(1), 1);
        // Two years: in turn noes are spared, so that one falls each year.
        due(x.harm(2), 11);
        // All together like it, but by each law it falls; then only NEED 3 lets it pass.
        x.worth(0, 3, 9);
        x.set(0, 3);
        due(x.harm(1), 1);
        x.noes(0, 0);
        due(x.harm(1), 3);
        due(x.harm(2), 3);
        due(x.law(0), 3);
        due(x.law(1), 0);
    }

    static void spoils() {
        begin(28);
        due(x.spoilt(1, 0), 0);
        due(x.spoilt(1, 1), 1);
        for (int p = 0; p < 3; p++) x.person(1, 0, 0, 1);
        for (int q = 0; q < 3; q++) {
            x.proposal(1);
            for (int p = 0; p < 3; p++) x.worth(q, p, 1);
        }
        x.worth(0, 1, -1);
        // 1: two don't like it; 2: all like it.
        x.worth(1, 1, -1);
        x.worth(1, 2, 0);
        due(x.spoilt(0, 0), 0);
        due(x.spoilt(0, 1), 1);
        due(x.spoilt(1, 0), 1);
        due(x.spoilt(1, 1), 3);
        // Year 2: 1/3 only if 2 came first.
        due(x.spoilt(2, 0), 4);
        due(x.spoilt(2, 1), 9);
        x.weigh(1, 0);
        x.weigh(2, 3);
        due(x.spoilt(1, 0), 1);
        due(x.spoilt(1, 1), 4);
        x.worth(0, 1, 0);
        due(x.spoilt(3, 0), 0);
        due(x.spoilt(3, 1), 1);
        due(x.spoilt(4, 0), -1);
        due(x.spoilt(-1, 0), -1);
        due(x.spoilt(1, 2), -1);
        due(x.spoilt(1, -1), -1);
        // Of one only, nobody but he is all but one.
        x.leave(0);
        x.leave(1);
        x.worth(0, 0, -1);
        due(x.spoilt(1, 0), 1);
    }

    static void rows() {
        begin(29);
        due(x.prove(1), -3);
        due(x.prove(0), -1);
        due(x.prove(13), -1);
        x.person(1, 0, 0, 2);
        x.proposal(1);
        x.proposal(1);
        x.worth(1, 0, -1);
        x.set(2, 5);
        due(x.prove(12), 12);
        due(x.many(5), 12);
        due(x.law(3), 1);
        due(x.seed(1), 1);
        due(x.personOf(0, 3), 2);
        int z = 1, noes = 2;
        int[][] want = new int[12][];
        for (int i = 0; i < 12; i++) {
            z = z * 1103515245 + 12345;
            int q = (z >>> 16) % 2;
            int says = q == 1 && noes > 0 ? 1 : 0;
            noes -= says;
            if ((i + 1) % 5 == 0 && noes == 0) noes = 1;
            want[i] = new int[] {q, says, says};
        }
        promise = 30;
        for (int i = 0; i < 12; i++) for (int what = 0; what < 3; what++) due(x.row(i, what), want[i][what]);
        due(x.row(12, 0), -9);
        due(x.row(-1, 0), -9);
        due(x.row(0, 3), -9);
        due(x.row(0, -1), -9);

        promise = 31;
        due(x.judge(), 0);
        for (int what = 0; what < 3; what++) {
            int was = x.row(11, what);
            due(x.alterRow(11, what, -7), was);
            due(x.row(11, what), -7);
            due(x.judge(), 12);
            due(x.alterRow(11, what, was), -7);
            due(x.judge(), 0);
        }
        due(x.alterRow(12, 0, 0), -9);
        due(x.alterRow(-1, 0, 0), -9);
        due(x.alterRow(0, 3, 0), -9);
        due(x.alterRow(0, -1, 0), -9);

        promise = 32;
        int first = x.alterRow(0, 1, 9);
        due(x.judge(), 1);
        x.alterRow(0, 1, first);
        x.alterRow(5, 0, 9);
        x.alterRow(8, 1, 9);
        due(x.judge(), 6);
        due(x.prove(3), 3);
        due(x.row(3, 0), -9);
        due(x.judge(), 0);
        x.seed(2);
        due(x.judge() > 0 ? 1 : 0, 1);
        x.seed(1);
        due(x.judge(), 0);
        x.weigh(0, 0);
        x.weigh(1, 0);
        due(x.judge(), -3);
        due(x.prove(3), -3);
        due(x.many(5), 3);
        x.weigh(0, 1);
        village("proposal 1;");
        due(x.judge(), 0);
        due(x.many(5), 0);
    }

    static void sheets() {
        begin(33);
        due(x.worths(0, 0), -1);
        x.proposal(1);
        due(x.worths(0, 0), -11);
        due(x.worths(0, 3), -11);
        due(x.worths(0, 4), -1);
        due(x.worths(0, -1), -1);
        due(x.worths(1, 0), -1);
        for (int p = 0; p < 3; p++) x.person(0, 0, 0, 0);
        x.sheet(0, 2, 5);
        x.put(0, 0, -10);
        x.put(0, 1, Integer.MAX_VALUE);
        x.put(0, 2, 3);
        due(x.worths(0, 0), 3);
        due(x.proposalOf(0, 0), 1);
        due(x.proposalOf(0, 1), 19);
        due(x.proposalOf(0, 2), 13);
        x.sheet(0, 2, 1);
        due(x.worths(0, 0), 1);
        due(x.proposalOf(0, 0), 10);
        due(x.proposalOf(0, 1), 19);
        x.sheet(0, 2, 0);
        due(x.worths(0, 0), 0);
        for (int sort : new int[] {0, 1, 3}) {
            x.sheet(0, sort, 3);
            due(x.worths(0, 0), -13);
        }

        begin(34);
        due(x.sheet(4, 0, 0), -1);
        due(x.sheet(-1, 0, 0), -1);
        due(x.sheet(0, 4, 0), -1);
        due(x.sheet(0, -2, 0), -1);
        due(x.sheet(0, 0, 41), -1);
        due(x.sheet(0, 0, -1), -14);
        due(x.sheet(4, 0, -1), -1);
        due(x.sheet(0, 4, -1), -1);
        due(x.sheet(3, 3, 40), 1);
        due(x.put(3, 39, 7), 1);
        due(x.sheet(3, 3, 41), -1);
        due(x.item(3, 3, 39), 7);
        due(x.sheet(3, 3, 40), 1);
        due(x.item(3, 3, 39), 0);
        due(x.sheet(3, -1, 41), 1);
        due(x.item(3, 3, 0), -11);
        due(x.sheet(3, -1, -1), 1);
        due(x.sheet(3, 0, 0), 1);
        due(x.item(3, 0, 0), -12);

        begin(35);
        due(x.put(4, 0, 0), -1);
        due(x.put(-1, 0, 0), -1);
        due(x.put(0, 0, 0), -11);
        int[] narrow = {(byte) 0x12345688, (short) 0x12349abc, 0x92345678, 0x92345678};
        int[] wide = {0x12345688, 0x12349abc, 0x92345678, 0x92345678};
        for (int sort = 0; sort < 4; sort++) {
            due(x.sheet(0, sort, 2), 1);
            due(x.put(0, 1, wide[sort]), 1);
            due(x.item(0, sort, 1), narrow[sort]);
            due(x.item(0, sort, 0), 0);
            due(x.put(0, 2, 1), -12);
            due(x.put(0, -1, 1), -12);
        }

        promise = 36;
        due(x.item(4, 3, 0), -1);
        due(x.item(-1, 3, 0), -1);
        due(x.item(0, 4, 0), -1);
        due(x.item(0, -1, 0), -1);
        due(x.item(1, 3, 0), -11);
        due(x.item(1, 4, 0), -1);
        due(x.item(0, 2, 0), -13);
        due(x.item(0, 2, 9), -13);
        due(x.item(0, 3, 2), -12);
        due(x.item(0, 3, -1), -12);
        x.put(0, 0, -12);
        due(x.item(0, 3, 0), -12);
    }

    static void shelves() {
        begin(37);
        due(x.shelf(0, 0, 0), -1);
        x.person(4, 0, 0, 0);
        x.person(3, 0, 0, 0);
        due(x.shelf(4, 0, 0), -1);
        due(x.shelf(-1, 0, 0), -1);
        due(x.shelf(0, 3, 0), -1);
        due(x.shelf(0, -1, 0), -1);
        due(x.shelf(0, 0, 2), -1);
        due(x.shelf(0, 0, -1), -1);
        due(x.shelf(0, 1, 4), -1);
        due(x.shelf(0, 1, -1), -1);
        due(x.shelf(3, 1, 3), 1);
        due(x.shelf(3, 0, 1), 1);
        due(x.taken(3, 0), 1);
        due(x.act(3, 0, 1), -6);
        due(x.shelf(0, 0, 1), 1);
        due(x.taken(0, 0), 1);
        due(x.shelf(0, 0, 9), -1);
        due(x.taken(0, 0), 1);
        due(x.shelf(0, 2, 77), 1);
        due(x.taken(0, 0), -11);
        due(x.shelf(0, 0, 1), 1);
        due(x.shelf(0, 1, 2), 1);
        due(x.taken(0, 0), -11);
        x.sheet(2, 1, 7);
        due(x.shelf(0, 1, 2), 1);
        due(x.taken(0, 11), 7);
        // It holds the row that the sheet had.
        x.sheet(2, 3, 5);
        due(x.taken(0, 11), 7);
        x.sheet(2, -1, 0);
        due(x.taken(0, 11), 7);

        promise = 38;
        due(x.taken(4, 0), -1);
        due(x.taken(-1, 0), -1);
        for (int as : new int[] {-1, 6, 9, 14}) due(x.taken(1, as), -1);
        due(x.taken(1, 13), -11);
        due(x.taken(0, 12), -13);
        due(x.taken(0, 1), -13);
        for (int sort = 0; sort < 4; sort++) {
            x.sheet(0, sort, sort);
            x.shelf(0, 1, 0);
            due(x.taken(0, 10 + sort), sort);
            due(x.taken(0, 13 - sort), -13);
        }
        x.shelf(0, 0, 1);
        String[] under = {"0", "01", "02", "023", "014", "05"};
        for (int kind = 0; kind < 6; kind++) {
            x.mind(1, kind, 0);
            for (int as = 0; as < 6; as++) due(x.taken(0, as), under[kind].indexOf('0' + as) >= 0 ? 1 : -13);
            due(x.taken(0, 10), -13);
        }
        // By its number: when somebody has this number again, it is he.
        x.leave(0);
        due(x.taken(0, 0), -11);
        due(x.taken(0, 10), -11);
        due(x.act(0, 0, 1), 0);
        x.person(1, 0, 0, 0);
        due(x.taken(0, 1), 1);
    }

    static void traced(int... numbers) {
        int was = promise;
        promise = 40;
        due(x.many(7), numbers.length);
        for (int i = 0; i < numbers.length; i++) due(x.trace(i), numbers[i]);
        due(x.trace(numbers.length), -3);
        due(x.trace(-1), -3);
        promise = was;
    }

    static void acts() {
        begin(39);
        due(x.act(0, 0, 1), 0);
        for (int p = 0; p < 4; p++) x.person(0, 0, 0, 0);
        due(x.shelf(0, 0, 3), 1);
        x.mind(3, 0, 7);
        due(x.act(0, 0, 10), 13);
        traced(10);
        due(x.act(0, 1, 10), 26);
        traced(11, 10);
        due(x.act(0, 2, -7), -1);
        traced(12);
        due(x.act(0, 3, 10), 26 ^ 7);
        traced(13, 11, 10);
        x.mind(3, 1, 7);
        due(x.act(0, 1, 10), 19);
        traced(20, 11, 10);
        due(x.act(0, 3, 10), 19 ^ 7);
        traced(13, 20, 11, 10);
        x.mind(3, 2, 7);
        due(x.act(0, 0, 10), 39);
        traced(30, 10);
        due(x.act(0, 3, 10), (78 ^ 7) + 0);
        traced(31, 13, 11, 30, 10, 12);
        x.mind(3, 3, 4);
        due(x.act(0, 0, 10), -39);
        traced(40, 30, 10);
        due(x.act(0, 1, 10), -78 - 18);
        traced(41, 11, 40, 30, 10, 40, 30, 10);
        due(x.act(0, 3, 10), ((-78 - 18) ^ 4) + 3);
        traced(31, 13, 41, 11, 40, 30, 10, 40, 30, 10, 12);
        x.mind(3, 4, 5);
        due(x.act(0, 0, 10), 10);
        traced(51, 10);
        due(x.act(0, 1, 10), 15);
        traced(20, 11, 51, 10);
        due(x.act(0, 2, 10), 6 ^ 1);
        traced(50, 12);
        due(x.act(0, 3, 10), 15 ^ 5);
        traced(13, 20, 11, 51, 10);
        x.mind(3, 5, 5);
        due(x.act(0, 2, 10), 5 + 8);
        traced(61, 12, 10);
        due(x.act(0, 3, 10), (26 ^ 5) * 2);
        traced(60, 13, 11, 10);
        // Parted by 0: that is all, and nothing runs behind it.
        x.mind(3, 5, 3);
        due(x.act(0, 2, 10), -15);
        traced(61, 12);
        x.mind(3, 3, 3);
        due(x.act(0, 3, 10), -15);
        traced(31, 13, 41, 11, 40, 30, 10, 40, 30, 10, 12);
        x.mind(3, 4, 3);
        due(x.act(0, 2, 10), -15);
        traced(50, 12);
        due(x.act(0, 0, 10), 10);
        traced(51, 10);
        // Ints wrap, also where the least is parted by -1.
        x.mind(3, 0, 2);
        due(x.act(0, 2, Integer.MIN_VALUE), Integer.MIN_VALUE);
        due(x.act(0, 0, Integer.MAX_VALUE), Integer.MIN_VALUE + 2);
        traced(10);
        due(x.act(0, 4, 1), 0);
        traced();
        x.act(0, 0, 1);
        due(x.act(0, -1, 1), 0);
        traced();
        x.act(0, 0, 1);
        due(x.act(4, 0, 1), 0);
        traced();
        x.act(0, 0, 1);
        due(x.act(-1, 0, 1), 0);
        traced();
        x.act(0, 0, 1);
        due(x.act(1, 0, 1), 0);
        traced();
        x.sheet(0, 0, 1);
        x.shelf(1, 1, 0);
        x.act(0, 0, 1);
        due(x.act(1, 0, 1), 0);
        traced();
    }

    static void counts() {
        begin(41);
        x.person(1, 0, 0, 4);
        x.person(1, 0, 0, 9);
        x.proposal(1);
        x.proposal(2);
        x.proposal(2);
        x.worth(0, 0, -1);
        x.comes(0);
        x.comes(1);
        x.comes(1);
        x.prove(7);
        x.feed(0, 5);
        x.shelf(0, 0, 0);
        x.mind(0, 1, 9);
        x.act(0, 3, 0);
        int[] want = {2, 3, 12, 1, 2, 7, 5, 4};
        for (int what = 0; what < 8; what++) due(x.many(what), want[what]);
        due(x.many(8), -1);
        due(x.many(-1), -1);
    }

    static void keeping() {
        begin(42);
        x.person(1, 7, 8, 2);
        x.proposal(3);
        x.worth(0, 0, -4);
        x.set(0, 2);
        x.set(1, 1);
        x.set(2, 9);
        x.seed(99);
        x.comes(0);
        due(x.keep(), 1);
        x.set(0, 1);
        x.comes(0);
        due(x.many(3), 1);
        x.noes(0, 0);
        x.mind(0, 2, 1);
        x.worth(0, 0, 9);
        x.weigh(0, 1);
        x.set(0, 1);
        x.set(1, 0);
        x.set(2, 1);
        x.comes(0);
        x.seed(5);
        x.person(0, 0, 0, 0);
        x.proposal(1);
        x.feed(0, 3);
        x.prove(2);
        x.sheet(0, 2, 4);
        x.put(0, 0, 6);
        x.shelf(0, 0, 0);
        x.shelf(1, 0, 1);
        x.act(0, 1, 1);

        promise = 43;
        due(x.again(), 1);
        due(x.personOf(0, 0), 1);
        due(x.personOf(0, 1), 7);
        due(x.personOf(0, 2), 8);
        due(x.personOf(0, 3), 1);
        due(x.had(0), 99996);
        due(x.proposalOf(0, -1), 3);
        due(x.proposalOf(0, 0), 6);
        due(x.proposalOf(1, -1), -1);
        due(x.law(0), 2);
        due(x.law(1), 1);
        due(x.law(2), 9);
        due(x.law(3), 2);
        due(x.many(3), 0);
        due(x.many(4), 1);
        due(x.seed(5), 99);
        // These stay as they are.
        due(x.many(5), 2);
        due(x.many(6), 3);
        due(x.many(7), 3);
        due(x.item(0, 2, 0), 6);
        due(x.taken(0, 0), 0);
        due(x.taken(1, 0), -11);
        // What is kept stays, whatever comes behind it, till something else is kept.
        x.leave(0);
        x.village();
        x.village();
        due(x.many(0), 0);
        due(x.again(), 1);
        due(x.seed(1), 99);
        due(x.proposalOf(0, 0), 6);
        x.leave(0);
        due(x.keep(), 1);
        x.person(0, 0, 0, 0);
        due(x.again(), 0);
        due(x.again(), 0);
    }

    /** All that goes over people or proposals, when there are as many as there can be, and when one is gone. */
    static void fullVillage() {
        begin(16);
        for (int p = 0; p < 6; p++) x.person(4, 0, 10 + p, 9);
        for (int q = 0; q < 8; q++) {
            x.proposal(9);
            for (int p = 0; p < 6; p++) x.worth(q, p, -1);
        }
        due(x.would(7), 2);
        for (int p = 0; p < 6; p++) x.mind(p, 3, 0);
        due(x.would(7), 63);
        for (int p = 0; p < 6; p++) x.mind(p, 1, 0);
        due(x.would(7), 63);
        promise = 17;
        x.set(1, 1);
        x.set(0, 3);
        due(x.says(7), 56);
        promise = 22;
        due(x.value(5, 3, 0), 0);
        x.set(1, 0);
        due(x.value(5, 3, 0), 0);
        promise = 29;
        due(x.prove(12), 12);
        for (int i = 0; i < 12; i++) due(x.row(i, 1), i < 9 ? 63 : 0);
        due(x.judge(), 0);
        promise = 23;
        for (int p = 0; p < 6; p++) x.mind(p, 0, 0);
        x.set(0, 1);
        due(x.value(5, 3, 0), -3);
        due(x.value(5, 3, 1), 1);
        due(x.best(5, 3, 0), 0);
        x.noes(5, 0);
        due(x.best(5, 3, 0), -3);
        x.noes(5, 1);
        promise = 24;
        due(x.should(5, 7, 2), 0);
        due(x.should(5, 7, 0), 1);
        promise = 25;
        due(x.barOf(5, 2), 0);
        promise = 26;
        due(x.lets(7, 1), 0);
        for (int p = 0; p < 6; p++) x.mind(p, 5, 255);
        due(x.lets(7, 1), -3);
        promise = 27;
        due(x.harm(2), 1);
        promise = 28;
        for (int p = 0; p < 5; p++) x.worth(7, p, 1);
        due(x.spoilt(3, 0), 3);
        due(x.spoilt(3, 1), 8);
        promise = 19;
        due(x.lot() >= 0 ? 1 : 0, 1);
        promise = 41;
        due(x.many(2), 40);
        x.noes(5, 9);
        due(x.leave(5), 5);
        due(x.many(2), 40);
        promise = 6;
        due(x.would(7), 31);
        due(x.says(7), 31);
    }
}
