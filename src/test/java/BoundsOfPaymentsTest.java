/** The boundaries of what is paid and held, of papers, and of looking at it all. */
public final class BoundsOfPaymentsTest extends Bounds {
    public static void main(String[] args) {
        theGains();
        thePayments();
        theRanks();
        theHoldings();
        theWays();
        thePapers();
        theFalseOnes();
        theLooks();
        theCounts();
        end(23, 24, 25, 26, 27, 28, 29);
    }

    private static void theGains() {
        says(23, "GAIN of PERSON o in SETTLEMENT s as KNOWN on t; NONE: it did not fall, no such ones.");
        HopeOffice x = fallen();
        due("in the YEAR in which it was told", x.gain(0, 2, 1705), 100);
        due("in the last year", x.gain(0, 2, 1999), 100);
        due("the first person", x.gain(0, 0, 1705), 0);
        due("the last person", x.gain(0, 4, 1705), 0);
        none(Bounds::fallen, "KNOWN a year too early", o -> o.gain(0, 2, 1704));
        none(Bounds::fallen, "in the YEAR of death", o -> o.gain(0, 2, 1703));
        none(Bounds::fallen, "a TENANT who is alive", o -> o.gain(1, 2, 1705));
        none(Bounds::village, "nobody died", o -> o.gain(0, 2, 1700));
        none(Bounds::fallen, "the year 1699", o -> o.gain(0, 2, 1699));
        none(Bounds::fallen, "the year 2000", o -> o.gain(0, 2, 2000));
        none(Bounds::fallen, "person -1", o -> o.gain(0, -1, 1705));
        none(Bounds::fallen, "person 5", o -> o.gain(0, 5, 1705));
        none(Bounds::fallen, "settlement -1", o -> o.gain(-1, 2, 1705));
        none(Bounds::fallen, "settlement 2", o -> o.gain(2, 2, 1705));
        for (int far : FAR) {
            none(Bounds::fallen, "person " + far, o -> o.gain(0, far, 1705));
            none(Bounds::fallen, "settlement " + far, o -> o.gain(far, 2, 1705));
            none(Bounds::fallen, "the year " + far, o -> o.gain(0, 2, far));
        }
        says(23, "born not behind the TENANT's YEAR and are not KNOWN to be dead, or died behind it.");
        HopeOffice y = five();
        settle(y, 90, 0, "*b");
        y.now(1705);
        int[] born = {1703, 1704, 1700, 1700, 1700};
        for (int year : born) {
            y.person(year, 1);
        }
        y.dies(0, 1703);
        y.dies(7, 1702);
        y.dies(8, 1703);
        y.dies(9, 1704);
        due("born in the TENANT's YEAR", y.gain(0, 5, 1705), 45);
        due("born behind it", y.gain(0, 6, 1705), 0);
        due("died ahead of it", y.gain(0, 7, 1705), 0);
        due("died in it", y.gain(0, 8, 1705), 0);
        due("died behind it", y.gain(0, 9, 1705), 45);
        y.now(1706);
        y.dies(5, 1703);
        due("not KNOWN to be dead on 1705", y.gain(0, 5, 1705), 45);
        due("KNOWN to be dead on 1706", y.gain(0, 5, 1706), 0);
        due("the other has all", y.gain(0, 9, 1706), 90);
        y.person(1700, 1);
        due("one who was told of in 1706", y.gain(0, 10, 1706), 45);
        due("one who was not there on 1705", y.gain(0, 10, 1705), 0);
        HopeOffice first = five();
        settle(first, 9, 1, "a,c");
        first.dies(1, 1700);
        due("the first person outlives the TENANT", first.gain(0, 0, 1700), 9);
        first.dies(0, 1700);
        due("and dies with it", first.gain(0, 0, 1700), 0);
        due("the next has it", first.gain(0, 2, 1700), 9);
        HopeOffice z = fallen();
        settle(z, 7, 0, "b");
        due("a SETTLEMENT of one who was dead", z.gain(2, 1, 1705), 7);
        z.dies(1, 1703);
        due("b died with the TENANT", z.gain(2, 1, 1705), 0);
    }

    /** What b, c and d are paid when a dies now. */
    private static void pays(String what, HopeOffice x, int toB, int toC, int toD) {
        int now = x.count(0);
        x.dies(0, now);
        due(what + ", to b", x.paid(0, 2, 1, now), toB);
        due(what + ", to c", x.paid(0, 2, 2, now), toC);
        due(what + ", to d", x.paid(0, 2, 3, now), toD);
        due(what + ", to e", x.paid(0, 2, 4, now), 0);
    }

    private static void thePayments() {
        says(24, "(by CHARGES, SALES, or as their own); NONE: as gain().");
        due("to the first person", fallen().paid(0, 2, 0, 1705), 0);
        due("to the last person", fallen().paid(0, 2, 4, 1705), 0);
        due("in the last year", fallen().paid(0, 2, 3, 1999), 46);
        none(Bounds::fallen, "to -1", o -> o.paid(0, 2, -1, 1705));
        none(Bounds::fallen, "to 5", o -> o.paid(0, 2, 5, 1705));
        none(Bounds::fallen, "of -1", o -> o.paid(0, -1, 1, 1705));
        none(Bounds::fallen, "of 5", o -> o.paid(0, 5, 1, 1705));
        none(Bounds::fallen, "settlement -1", o -> o.paid(-1, 2, 1, 1705));
        none(Bounds::fallen, "settlement 2", o -> o.paid(2, 2, 1, 1705));
        none(Bounds::fallen, "settlement 1, which did not fall", o -> o.paid(1, 2, 1, 1705));
        none(Bounds::fallen, "KNOWN a year too early", o -> o.paid(0, 2, 1, 1704));
        none(Bounds::fallen, "the year 1699", o -> o.paid(0, 2, 1, 1699));
        none(Bounds::fallen, "the year 2000", o -> o.paid(0, 2, 1, 2000));
        none(Bounds::village, "nobody died", o -> o.paid(0, 2, 1, 1700));
        for (int far : FAR) {
            none(Bounds::fallen, "to " + far, o -> o.paid(0, 2, far, 1705));
            none(Bounds::fallen, "of " + far, o -> o.paid(0, far, 1, 1705));
            none(Bounds::fallen, "settlement " + far, o -> o.paid(far, 2, 1, 1705));
            none(Bounds::fallen, "the year " + far, o -> o.paid(0, 2, 1, far));
        }
        says(24, "Of it goes in order: DUTY (hundredths told, 0 to 50; 0 at first), rounded down;");
        int[][] duties = {{99, 1, 99}, {100, 1, 99}, {101, 50, 51}, {1, 50, 1}, {2, 50, 1}, {100000, 50, 50000}, {100000, 0, 100000},
            {100000, 33, 67000}, {100000, 49, 51000}, {33, 3, 33}, {34, 3, 33}};
        for (int[] row : duties) {
            HopeOffice x = sold(row[0]);
            x.number(1, row[1]);
            pays("a DUTY of " + row[1] + " on " + row[0], x, 0, row[2], 0);
        }
        says(24, "CHARGES, as far as it reaches;");
        int[][] charges = {{100, 100, 1, 100, 0, 0}, {100, 99, 1, 99, 0, 1}, {100, 99, 2, 99, 0, 1}, {100, 101, 1, 100, 0, 0},
            {100, 60, 30, 60, 10, 30}, {100, 100000, 100000, 100, 0, 0}};
        for (int[] row : charges) {
            HopeOffice x = sold(row[0]);
            x.charge(2, 0, 1, row[1]);
            x.charge(2, 0, 3, row[2]);
            pays("CHARGES of " + row[1] + " and " + row[2], x, row[3], row[4], row[5]);
        }
        HopeOffice ahead = sold(100, 1000);
        ahead.charge(2, 0, 3, 99);
        ahead.number(1, 0);
        pays("CHARGES ahead of SALES", ahead, 1, 0, 99);
        HopeOffice nothing = sold(100, 1000);
        nothing.charge(2, 0, 3, 100);
        pays("nothing is left for SALES", nothing, 0, 0, 100);
        HopeOffice dutyFirst = sold(100, 500);
        dutyFirst.number(1, 50);
        dutyFirst.charge(2, 0, 3, 60);
        pays("DUTY ahead of CHARGES", dutyFirst, 0, 0, 50);
        HopeOffice others = sold(100, 500);
        settle(others, 100, 0, "b,c");
        others.charge(1, 0, 3, 60);
        others.charge(2, 1, 3, 60);
        others.sale(2, 1, 900, 3, 0, true);
        others.sale(1, 0, 900, 3, 0, true);
        pays("another's CHARGES and SALES, or another SETTLEMENT's", others, 50, 50, 0);
        says(24, "each its thousandths of that, rounded down, but no more thousandths than are left of 1000; the rest is the PERSON's own.");
        pays("no SALE", sold(100), 0, 100, 0);
        pays("a thousandth of 999", sold(999, 1), 0, 999, 0);
        pays("a thousandth of 1000", sold(1000, 1), 1, 999, 0);
        pays("999 thousandths of 1", sold(1, 999), 0, 1, 0);
        pays("all of 1", sold(1, 1000), 1, 0, 0);
        pays("all of the greatest FUND", sold(100000, 1000), 100000, 0, 0);
        pays("just a thousand", sold(100, 500, 500), 50, 0, 50);
        pays("just below", sold(1000, 500, 499), 500, 1, 499);
        pays("just above", sold(1000, 500, 501), 500, 0, 500);
        pays("all twice", sold(100, 1000, 1000), 100, 0, 0);
        pays("a third that gets nothing", sold(100, 400, 600, 400), 40, 0, 60);
        pays("a third that gets what is left", sold(100, 300, 600, 400), 40, 0, 60);
        pays("two halves of 1", sold(1, 500, 500), 0, 1, 0);
        pays("three parts rounded", sold(10, 333, 333, 334), 6, 1, 3);
        pays("forty parts rounded", fortySales(), 40, 20, 40);
    }

    /** Who of b and d is ahead, by two SALES of all, with notices (a YEAR and a MINUTE each; -1 without). */
    private static void ranks(String what, int year0, int minute0, int year1, int minute1, boolean first) {
        HopeOffice x = sold(100, 1000, 1000);
        for (int year = 1700; year < 1704; year++) {
            x.now(year);
            if (year1 == year) {
                x.notice(1, minute1);
            }
            if (year0 == year) {
                x.notice(0, minute0);
            }
        }
        pays(what, x, first ? 100 : 0, 0, first ? 0 : 100);
    }

    private static void theRanks() {
        says(24, "those with NOTICE by MINUTE (YEAR, then MINUTE, then numbers), then those without by numbers");
        ranks("without any", -1, 0, -1, 0, true);
        ranks("the first with one", 1703, 527039, -1, 0, true);
        ranks("the second with one", -1, 0, 1703, 527039, false);
        ranks("the same MINUTE", 1701, 7, 1701, 7, true);
        ranks("the first a MINUTE ahead", 1701, 6, 1701, 7, true);
        ranks("the second a MINUTE ahead", 1701, 7, 1701, 6, false);
        ranks("MINUTES 0 and 527039", 1701, 527039, 1701, 0, false);
        ranks("the YEAR goes ahead of the MINUTE", 1701, 527039, 1702, 0, true);
        ranks("the YEAR goes ahead of the MINUTE", 1702, 0, 1701, 527039, false);
        ranks("the same MINUTE of another YEAR", 1702, 7, 1701, 7, false);
        HopeOffice x = sold(1000, 400, 300, 200, 500);
        x.notice(3, 9);
        x.notice(2, 10);
        // 500 of the fourth, 200 of the third, then 300 of the first; the second gets nothing.
        pays("two with NOTICE ahead of two without", x, 500, 0, 500);
        HopeOffice tie = sold(1000, 100, 700, 700);
        tie.notice(2, 5);
        tie.notice(1, 5);
        // 700 of the second, then 300 of the third; the first gets nothing.
        pays("a tie goes by numbers", tie, 300, 0, 700);
        says(24, "SALES that are not UNDONE");
        HopeOffice undone = sold(100, 1000, 1000);
        act(undone, "p<1");
        undone.notice(0, 0);
        due("undo", undone.undo(0), 0);
        pays("an UNDONE SALE takes nothing", undone, 0, 0, 100);
    }

    private static void held(String what, HopeOffice x, int b, int... want) {
        for (int i = 0; i < want.length; i++) {
            due(what + ", what " + i, x.holds(b, i), want[i]);
        }
    }

    private static void theHoldings() {
        says(25, "2 AT THE WORST, 3 how many ways bring it; NONE: no such ones, (2, 3) more than eight.");
        held("one SALE", village(), 1, 1, 500, 0, 2);
        held("none", village(), 4, 0, 0, 0, 1);
        held("the first person", village(), 0, 0, 0, 0, 1);
        none(Bounds::village, "what -1", o -> o.holds(1, -1));
        none(Bounds::village, "what 4", o -> o.holds(1, 4));
        none(Bounds::village, "buyer -1", o -> o.holds(-1, 0));
        none(Bounds::village, "buyer 5", o -> o.holds(5, 0));
        for (int far : FAR) {
            none(Bounds::village, "what " + far, o -> o.holds(1, far));
            none(Bounds::village, "buyer " + far, o -> o.holds(far, 0));
        }
        held("twenty of forty", fortySales(), 1, 20, 500, 0, 1);
        HopeOffice over = sold(100, 1000, 1, 1000);
        held("thousandths as they were sold", over, 1, 2, 2000, 0, 1);
        HopeOffice sixteen = people(16);
        settle(sixteen, 10, 0, "c");
        sixteen.sale(2, 0, 1000, 15, 0, true);
        held("the sixteenth", sixteen, 15, 1, 1000, 0, 1);
        says(25, "SALES to them that are not UNDONE, in SETTLEMENTS that did not fall.");
        HopeOffice x = village();
        x.sale(2, 1, 7, 1, 0, true);
        // c and e alive or not, and b: e takes all of the second, c is alive in the first.
        held("in two SETTLEMENTS", x, 1, 2, 507, 0, 4);
        x.undo(0);
        held("one of them UNDONE", x, 1, 1, 7, 0, 4);
        HopeOffice y = village();
        y.sale(2, 1, 100, 1, 0, true);
        y.dies(0, 1700);
        held("one of them fell", y, 1, 1, 100, 0, 3);
        y.dies(3, 1700);
        held("both fell", y, 1, 0, 0, 0, 1);
    }

    /** k buys all of somebody's hope in each of some settlements, whose TENANT is a. */
    private static HopeOffice bought(String... texts) {
        HopeOffice x = people(12);
        for (int s = 0; s < texts.length; s++) {
            due("settle " + texts[s], settle(x, 100, 0, texts[s]), s);
            x.sale(texts[s].charAt(0) - 'a', s, 1000, 10, 0, true);
        }
        return x;
    }

    private static void theWays() {
        says(25, "of all ways in which NAMED ones of these SETTLEMENTS (eight at most who are not KNOWN to be dead) are alive or not");
        held("one", bought("b"), 10, 1, 1000, 0, 1);
        held("nobody is named who is there", bought("p"), 10, 0, 0, 0, 1);
        held("b dead, or c to i dead", bought("b(c|d|e|f|g|h|i)"), 10, 1, 1000, 0, 129);
        HopeOffice nine = bought("b(c|d|e|f|g|h|i|j)");
        held("nine", nine, 10, 1, 1000, NONE, NONE);
        nine.dies(9, 1700);
        held("nine, one of them dead", nine, 10, 1, 1000, 0, 129);
        held("another buyer's", nine, 11, 0, 0, 0, 1);
        nine.person(1690, 1);
        settle(nine, 100, 0, "c,*b");
        held("another SETTLEMENT with a ninth", nine, 10, 1, 1000, 0, 129);
        nine.sale(2, 1, 1, 10, 0, true);
        held("it is held", nine, 10, 2, 1001, NONE, NONE);
        held("four and four in two", bought("b(c|d|e)", "f(g|h|i)"), 10, 2, 2000, 0, 81);
        held("eight in two that share some", bought("b(c|d|e|f|g)", "f(g|h|i)"), 10, 2, 2000, 0, sharing());
        held("nine in three", bought("b(c|d|e)", "f(g|h|i)", "j"), 10, 3, 3000, NONE, NONE);
        HopeOffice three = bought("b(c|d|e)", "f(g|h|i)", "j");
        three.dies(9, 1700);
        held("eight in three", three, 10, 3, 3000, 0, 81);
        says(25, "are alive or not (those TENANTS being dead)");
        HopeOffice x = people(12);
        settle(x, 100, 0, "b");
        settle(x, 100, 1, "a,c");
        x.sale(2, 1, 1000, 10, 0, true);
        held("a and c alive or not", x, 10, 1, 1000, 0, 3);
        x.sale(1, 0, 1000, 10, 0, true);
        held("a and b are dead as TENANTS", x, 10, 2, 2000, 0, 1);
        HopeOffice first = people(4);
        settle(first, 100, 1, "a(!c|d);c");
        first.sale(0, 0, 1000, 3, 0, true);
        held("the first person is named: a dead, or c alive and d not", first, 3, 1, 1000, 0, 5);
        first.dies(2, 1700);
        held("c is KNOWN to be dead", first, 3, 1, 1000, 0, 2);
        HopeOffice gone = people(4);
        settle(gone, 100, 1, "a(!c);d");
        gone.sale(0, 0, 1000, 3, 0, true);
        gone.dies(2, 1700);
        held("in no way is c alive", gone, 3, 1, 1000, 0, 2);
        HopeOffice crossed = people(4);
        settle(crossed, 100, 0, "c");
        settle(crossed, 100, 0, "b");
        crossed.sale(1, 0, 1000, 3, 0, true);
        crossed.sale(2, 1, 1000, 3, 0, true);
        held("what comes to a seller elsewhere", crossed, 3, 2, 2000, 0, 4);
        HopeOffice rich = sold(100000, 500, 500);
        held("another's SALE takes nothing away", rich, 1, 1, 500, 0, 1);
        says(25, "(by thousandths alone: what is left of 1000 by NOTICE as in part 4, no DUTY, no CHARGES)");
        HopeOffice y = sold(100, 1000, 1000);
        held("the first has all", y, 1, 1, 1000, 0, 1);
        held("the second has nothing", y, 3, 1, 1000, 0, 2);
        y.notice(1, 527039);
        held("the first behind a NOTICE", y, 1, 1, 1000, 0, 2);
        held("the second by its NOTICE", y, 3, 1, 1000, 0, 1);
        HopeOffice left = sold(100, 991, 1000);
        held("nine thousandths of 100 are nothing", left, 3, 1, 1000, 0, 2);
        HopeOffice more = sold(100, 990, 1000);
        held("ten are something", more, 3, 1, 1000, 0, 1);
        more.charge(2, 0, 4, 100000);
        more.number(1, 50);
        held("without CHARGES and DUTY", more, 3, 1, 1000, 0, 1);
        HopeOffice twice = sold(100, 9, 1, 9);
        held("two SALES are rounded one by one", twice, 1, 2, 18, 0, 2);
    }

    /** Of the ways of b to i those by which neither b(c|d|e|f|g) nor f(g|h|i) brings anything. */
    private static int sharing() {
        int ways = 0;
        for (int set = 0; set < 256; set++) {
            boolean first = (set & 1) == 1 && (set & 62) != 0;
            boolean second = (set & 16) == 16 && (set & 224) != 0;
            ways += first || second ? 0 : 1;
        }
        return ways;
    }

    private static HopeOffice hundredPapers() {
        HopeOffice x = five();
        for (int i = 0; i < 100; i++) {
            x.papers(i % 5, 1690);
        }
        return x;
    }

    private static void thePapers() {
        says(26, "PAPERS: a PERSON is told alive in a YEAR (0 to NOW).");
        HopeOffice x = village();
        due("the year 0", x.papers(1, 0), true);
        due("this year", x.papers(1, 1700), true);
        due("PAPERS", x.count(5), 3);
        no(Bounds::village, "the year -1", o -> o.papers(1, -1));
        no(Bounds::village, "the year 1701", o -> o.papers(1, 1701));
        for (int far : FAR) {
            no(Bounds::village, "the year " + far, o -> o.papers(1, far));
            no(Bounds::village, "person " + far, o -> o.papers(far, 1700));
        }
        x.now(1999);
        due("the last year", x.papers(1, 1999), true);
        due("the year 2000", x.papers(1, 2000), false);
        says(26, "PAPERS of PERSON o in a YEAR: true; false: no such ones, 100 were told.");
        due("of the first", village().papers(0, 1700), true);
        due("of the last", village().papers(4, 1700), true);
        due("of one who is dead", fallen().papers(0, 1705), true);
        no(Bounds::village, "of -1", o -> o.papers(-1, 1700));
        no(Bounds::village, "of 5", o -> o.papers(5, 1700));
        HopeOffice y = five();
        for (int i = 0; i < 100; i++) {
            due("papers", y.papers(i % 5, 1700), true);
        }
        due("a hundred and first", y.papers(0, 1700), false);
        due("of another", y.papers(4, 0), false);
        due("PAPERS", y.count(5), 100);
        due("none is FALSE", y.falseOnes(), 0);
        no(BoundsOfPaymentsTest::hundredPapers, "a hundred and first", o -> o.papers(0, 0));
    }

    /** Whether papers of years make one FALSE who was born in 1690 and is dead since a year (-1: is not). */
    private static void papersOf(int death, boolean want, int... years) {
        HopeOffice x = new HopeOffice();
        x.person(1690, NONE);
        x.now(1720);
        StringBuilder told = new StringBuilder();
        for (int year : years) {
            due("papers", x.papers(0, year), true);
            told.append(year).append(' ');
        }
        if (death >= 0) {
            x.dies(0, death);
        }
        due("papers of " + told + "with a death in " + death, x.falseOnes(), want ? 1 : 0);
    }

    private static void theFalseOnes() {
        says(27, "FALSE are PERSONS whose PAPERS can't be as KNOWN now: alive ahead of birth, or behind the YEAR in which they are dead.");
        papersOf(-1, false);
        papersOf(1700, false);
        papersOf(-1, false, 1690);
        papersOf(-1, true, 1689);
        papersOf(-1, true, 0);
        papersOf(-1, false, 1720);
        papersOf(1700, false, 1700);
        papersOf(1700, true, 1701);
        papersOf(1700, false, 1690, 1695, 1700);
        papersOf(1700, true, 1689, 1695);
        papersOf(1700, true, 1695, 1689);
        papersOf(1700, true, 1689, 1695, 1690);
        papersOf(1700, true, 1701, 1695);
        papersOf(1700, true, 1695, 1701);
        papersOf(1700, true, 1701, 1720, 1690);
        papersOf(1690, false, 1690);
        papersOf(1690, true, 1691);
        papersOf(1690, true, 1689);
        papersOf(1720, false, 1720);
        says(27, "FALSE ones, as bits.");
        HopeOffice x = people(16);
        due("none", x.falseOnes(), 0);
        x.papers(15, 1669);
        due("the sixteenth", x.falseOnes(), 32768);
        x.papers(0, 1669);
        due("and the first", x.falseOnes(), 32769);
        for (int i = 0; i < 16; i++) {
            x.papers(i, 1);
        }
        due("all", x.falseOnes(), 65535);
        HopeOffice y = people(3);
        y.now(1710);
        y.papers(1, 1710);
        y.papers(2, 1670);
        due("none yet", y.falseOnes(), 0);
        y.dies(1, 1709);
        due("as KNOWN now", y.falseOnes(), 2);
        y.dies(0, 1670);
        due("without PAPERS none is FALSE", y.falseOnes(), 2);
    }

    private static void theLooks() {
        says(28, "Of SALE i, what 0 the seller, 1 the SETTLEMENT, 2 thousandths, 3 the buyer, 4 the PRICE, 5 the YEAR, 6 the YEAR of NOTICE (NONE), 7 its MINUTE (NONE), 8 the YEAR in which it was UNDONE (NONE).");
        HopeOffice x = village();
        x.now(1702);
        due("a third SALE", x.sale(4, 1, 333, 0, 77, true), 2);
        int[][] rows = {{2, 0, 500, 1, 10, 1700, NONE, NONE, NONE}, {2, 0, 400, 3, 40, 1700, 1700, 50, NONE},
            {4, 1, 333, 0, 77, 1702, NONE, NONE, NONE}};
        for (int i = 0; i < rows.length; i++) {
            for (int what = 0; what < 9; what++) {
                due("look(" + i + ", " + what + ")", x.look(i, what), rows[i][what]);
            }
        }
        x.notice(2, 0);
        due("undo", x.undo(0), 10);
        due("NOTICE at MINUTE 0", x.look(2, 7), 0);
        due("its YEAR", x.look(2, 6), 1702);
        due("UNDONE in", x.look(0, 8), 1702);
        due("an UNDONE one's seller", x.look(0, 0), 2);
        says(28, "NONE for others. ## Promise 29");
        none(Bounds::village, "what -1", o -> o.look(0, -1));
        none(Bounds::village, "what 9", o -> o.look(0, 9));
        none(Bounds::village, "sale -1", o -> o.look(-1, 0));
        none(Bounds::village, "sale 2", o -> o.look(2, 0));
        none(Bounds::fortySales, "sale 40 of forty", o -> o.look(40, 0));
        due("the fortieth", fortySales().look(39, 3), 3);
        for (int far : FAR) {
            none(Bounds::village, "what " + far, o -> o.look(0, far));
            none(Bounds::village, "sale " + far, o -> o.look(far, 0));
        }
    }

    private static void theCounts() {
        says(29, "0 NOW, 1 PERSONS, 2 SETTLEMENTS, 3 SALES, 4 CHARGES, 5 PAPERS, 6 bytes of the tape, 7 whether there is an ACT, 8 INTEREST, 9 DUTY;");
        HopeOffice x = fallen();
        x.number(0, 3);
        x.number(1, 4);
        int[] first = {1705, 5, 2, 2, 1, 1, 20, 1, 3, 4};
        for (int what = 0; what < first.length; what++) {
            due("count(" + what + ")", x.count(what), first[what]);
        }
        says(29, "20 + s CLAUSES of SETTLEMENT s; 40 + o the YEAR of death of PERSON o (NONE). NONE for others.");
        for (int what = 10; what < 120; what++) {
            due("count(" + what + ")", x.count(what), what == 20 ? 2 : what == 21 ? 1 : what == 40 ? 1703 : NONE);
        }
        none(Bounds::village, "count(-1)", o -> o.count(-1));
        for (int far : FAR) {
            none(Bounds::village, "count(" + far + ")", o -> o.count(far));
        }
        none(Bounds::village, "round the end of the ints", o -> o.count(Integer.MIN_VALUE + 20));
        HopeOffice ten = tenFunds();
        for (int s = -1; s <= 10; s++) {
            due("CLAUSES of " + s, ten.count(20 + s), s < 0 || s > 9 ? NONE : s < 8 ? 4 : 1);
        }
        HopeOffice full = people(16);
        full.dies(0, 1671);
        full.dies(15, 1672);
        for (int o = -1; o <= 16; o++) {
            due("the death of " + o, full.count(40 + o), o == 0 ? 1671 : o == 15 ? 1672 : NONE);
        }
        HopeOffice eight = people(2);
        settle(eight, 1, 0, "b;b;b;b;b;b;b;b");
        due("eight CLAUSES", eight.count(20), 8);
        HopeOffice fault = people(2);
        settle(fault, 1, 0, "b;b;");
        due("a SETTLEMENT with a fault has none", fault.count(20), NONE);
    }
}
