import java.util.function.Supplier;

/** The boundaries of sales: notices, charges, hard ones, least prices and cover. */
public final class BoundsOfSalesTest extends Bounds {
    public static void main(String[] args) {
        theSales();
        theNotices();
        theCharges();
        theHardOnes();
        theUndoneOnes();
        theLeastPrices();
        theCovers();
        end(15, 16, 17, 19, 20, 21, 22);
    }

    private static void theSales() {
        says(15, "thousandths (1 to 1000) of what comes to that PERSON there, a buyer (a PERSON), a PRICE (0 to 100000), ADVISED or not.");
        HopeOffice x = village();
        due("one thousandth for nothing", x.sale(2, 0, 1, 1, 0, true), 2);
        due("all for the greatest PRICE", x.sale(2, 0, 1000, 1, 100000, false), 3);
        due("the thousandths", x.look(2, 2), 1);
        due("the PRICE", x.look(2, 4), 0);
        due("the thousandths", x.look(3, 2), 1000);
        due("the PRICE", x.look(3, 4), 100000);
        none(Bounds::village, "0 thousandths", o -> o.sale(2, 0, 0, 1, 5, true));
        none(Bounds::village, "-1 thousandths", o -> o.sale(2, 0, -1, 1, 5, true));
        none(Bounds::village, "1001 thousandths", o -> o.sale(2, 0, 1001, 1, 5, true));
        none(Bounds::village, "a PRICE of -1", o -> o.sale(2, 0, 1, 1, -1, true));
        none(Bounds::village, "a PRICE of 100001", o -> o.sale(2, 0, 1, 1, 100001, true));
        none(Bounds::village, "the greatest int as a PRICE", o -> o.sale(2, 0, 1, 1, Integer.MAX_VALUE, true));
        none(Bounds::village, "the least int as a PRICE", o -> o.sale(2, 0, 1, 1, Integer.MIN_VALUE, true));
        says(15, "A SALE: its number; NONE: no such ones, the buyer is the seller, the TENANT is KNOWN to be dead, 40 are there.");
        due("the first person sells to the last", x.sale(0, 1, 5, 4, 5, true), 4);
        due("the last person sells to the first", x.sale(4, 1, 5, 0, 5, true), 5);
        none(Bounds::village, "seller -1", o -> o.sale(-1, 0, 1, 1, 5, true));
        none(Bounds::village, "seller 5", o -> o.sale(5, 0, 1, 1, 5, true));
        none(Bounds::village, "buyer -1", o -> o.sale(2, 0, 1, -1, 5, true));
        none(Bounds::village, "buyer 5", o -> o.sale(2, 0, 1, 5, 5, true));
        none(Bounds::village, "settlement -1", o -> o.sale(2, -1, 1, 1, 5, true));
        none(Bounds::village, "settlement 2", o -> o.sale(2, 2, 1, 1, 5, true));
        for (int far : FAR) {
            none(Bounds::village, "seller " + far, o -> o.sale(far, 0, 1, 1, 5, true));
            none(Bounds::village, "buyer " + far, o -> o.sale(2, 0, 1, far, 5, true));
            none(Bounds::village, "settlement " + far, o -> o.sale(2, far, 1, 1, 5, true));
            none(Bounds::village, "thousandths " + far, o -> o.sale(2, 0, far, 1, 5, true));
        }
        none(Bounds::village, "to oneself", o -> o.sale(2, 0, 1, 2, 5, true));
        none(Bounds::village, "5 to oneself, who isn't there", o -> o.sale(5, 0, 1, 5, 5, true));
        none(Bounds::fallen, "the TENANT is dead", o -> o.sale(2, 0, 1, 1, 5, true));
        due("another's TENANT is not", fallen().sale(2, 1, 1, 1, 5, true), 2);
        HopeOffice y = village();
        y.dies(2, 1700);
        due("a seller who is dead", y.sale(2, 0, 1, 1, 5, true), 2);
        y.dies(0, 1670);
        due("a TENANT dead long ago, as told now", y.sale(2, 0, 1, 1, 5, true), NONE);
        HopeOffice z = five();
        settle(z, 9, 0, "c");
        for (int i = 0; i < 40; i++) {
            due("sale", z.sale(2, 0, 1000, 1, i, true), i);
        }
        due("a forty-first", z.sale(2, 0, 1, 1, 5, true), NONE);
        due("SALES", z.count(3), 40);
        due("the fortieth", z.look(39, 4), 39);
        none(Bounds::fortySales, "a forty-first", o -> o.sale(2, 0, 1, 1, 5, true));
        HopeOffice undone = fortySales();
        act(undone, "p<1");
        due("undo", undone.undo(0), 0);
        due("an UNDONE one keeps its number", undone.sale(2, 0, 1, 1, 5, true), NONE);
    }

    private static void theNotices() {
        says(16, "NOTICE of a SALE to the trustees: once, at a MINUTE of NOW (0 to 527039).");
        HopeOffice x = village();
        due("MINUTE 0", x.notice(0, 0), true);
        due("its MINUTE", x.look(0, 7), 0);
        due("its YEAR", x.look(0, 6), 1700);
        HopeOffice y = village();
        y.now(1999);
        due("MINUTE 527039", y.notice(0, 527039), true);
        due("its MINUTE", y.look(0, 7), 527039);
        due("its YEAR", y.look(0, 6), 1999);
        no(Bounds::village, "MINUTE -1", o -> o.notice(0, -1));
        no(Bounds::village, "MINUTE 527040", o -> o.notice(0, 527040));
        no(Bounds::village, "the greatest int", o -> o.notice(0, Integer.MAX_VALUE));
        no(Bounds::village, "the least int", o -> o.notice(0, Integer.MIN_VALUE));
        says(16, "NOTICE of SALE i: true; false: no such ones, it was given.");
        no(Bounds::village, "given at another MINUTE", o -> o.notice(1, 51));
        no(Bounds::village, "given at the same", o -> o.notice(1, 50));
        no(Bounds::fallen, "given in another YEAR", o -> o.notice(1, 50));
        due("behind the fall", fallen().notice(0, 7), true);
        no(Bounds::village, "of -1", o -> o.notice(-1, 0));
        no(Bounds::village, "of 2", o -> o.notice(2, 0));
        no(Bounds::village, "of 40", o -> o.notice(40, 0));
        for (int far : FAR) {
            no(Bounds::village, "of " + far, o -> o.notice(far, 0));
        }
        due("of the fortieth", fortySales().notice(39, 0), true);
        no(Bounds::fortySales, "of 40, where 40 are there", o -> o.notice(40, 0));
    }

    private static void theCharges() {
        says(17, "NONE: no such ones (SUM 1 to 100000), one twice, 20 are there.");
        HopeOffice x = village();
        due("a SUM of 1", x.charge(2, 0, 1, 1), 1);
        due("a SUM of 100000", x.charge(0, 1, 4, 100000), 2);
        due("the same again", x.charge(0, 1, 4, 100000), 3);
        due("of the last person for the first", x.charge(4, 1, 0, 5), 4);
        due("CHARGES", x.count(4), 5);
        none(Bounds::village, "a SUM of 0", o -> o.charge(2, 0, 1, 0));
        none(Bounds::village, "a SUM of -1", o -> o.charge(2, 0, 1, -1));
        none(Bounds::village, "a SUM of 100001", o -> o.charge(2, 0, 1, 100001));
        none(Bounds::village, "the greatest int", o -> o.charge(2, 0, 1, Integer.MAX_VALUE));
        none(Bounds::village, "the least int", o -> o.charge(2, 0, 1, Integer.MIN_VALUE));
        none(Bounds::village, "of -1", o -> o.charge(-1, 0, 1, 5));
        none(Bounds::village, "of 5", o -> o.charge(5, 0, 1, 5));
        none(Bounds::village, "for -1", o -> o.charge(2, 0, -1, 5));
        none(Bounds::village, "for 5", o -> o.charge(2, 0, 5, 5));
        none(Bounds::village, "settlement -1", o -> o.charge(2, -1, 1, 5));
        none(Bounds::village, "settlement 2", o -> o.charge(2, 2, 1, 5));
        for (int far : FAR) {
            none(Bounds::village, "of " + far, o -> o.charge(far, 0, 1, 5));
            none(Bounds::village, "for " + far, o -> o.charge(2, 0, far, 5));
            none(Bounds::village, "settlement " + far, o -> o.charge(2, far, 1, 5));
        }
        none(Bounds::village, "for oneself", o -> o.charge(2, 0, 2, 5));
        due("behind the fall", fallen().charge(2, 0, 1, 5), 1);
        says(17, "CHARGES 0 to 19 of a PERSON in a SETTLEMENT: a SUM for another PERSON, told at NOW");
        HopeOffice y = five();
        settle(y, 9, 0, "c");
        for (int i = 0; i < 20; i++) {
            due("charge", y.charge(2, 0, 1, 5), i);
        }
        due("a twenty-first", y.charge(2, 0, 1, 5), NONE);
        due("of another, too", y.charge(1, 0, 2, 5), NONE);
        due("CHARGES", y.count(4), 20);
        none(BoundsOfSalesTest::twentyCharges, "a twenty-first", o -> o.charge(2, 0, 1, 5));
        HopeOffice z = twentyCharges();
        z.dies(0, 1700);
        due("the twentieth is paid", z.paid(0, 2, 3, 1700), 5);
        due("the nineteen ahead of it are", z.paid(0, 2, 1, 1700), 95);
        due("nothing is left", z.paid(0, 2, 2, 1700), 0);
    }

    private static HopeOffice twentyCharges() {
        HopeOffice x = five();
        settle(x, 100, 0, "c");
        for (int i = 0; i < 20; i++) {
            x.charge(2, 0, i < 19 ? 1 : 3, 5);
        }
        return x;
    }

    /** Whether c's SALE of 500 thousandths (of a WORTH of 66) for a PRICE, at 26, is HARD by an act. */
    private static void weighed(String text, int price, boolean advised, boolean want) {
        HopeOffice x = five();
        settle(x, 100, 0, "b(!c);c");
        x.sale(2, 0, 500, 1, price, advised);
        due("act " + text, act(x, text), 0);
        due("a PRICE of " + price + " by " + text, x.hard(0), want ? 1 : 0);
    }

    private static void theHardOnes() {
        says(19, "Whether SALE i is HARD: 1, 0; NONE: no such one.");
        due("the first", village().hard(0), 1);
        due("the last", village().hard(1), 0);
        none(Bounds::village, "sale -1", o -> o.hard(-1));
        none(Bounds::village, "sale 2", o -> o.hard(2));
        none(Bounds::fortySales, "sale 40 of forty", o -> o.hard(40));
        for (int far : FAR) {
            none(Bounds::village, "sale " + far, o -> o.hard(far));
        }
        HopeOffice forty = fortySales();
        act(forty, "p>38");
        due("the thirty-ninth", forty.hard(38), 0);
        due("the fortieth", forty.hard(39), 1);
        says(19, "Without an ACT none is HARD; if WORTH is not RECKONED neither.");
        due("without an ACT", fortySales().hard(0), 0);
        HopeOffice x = village();
        act(x, "1>0");
        due("by an ACT that always holds", x.hard(1), 1);
        x.sale(4, 1, 5, 0, 5, true);
        due("a TENANT without LIVES", x.hard(2), 0);
        x.dies(0, 1700);
        due("a TENANT told dead in the YEAR of the SALE", x.hard(1), 0);
        HopeOffice y = fallen();
        due("a TENANT told dead behind it", y.hard(0), 1);
        HopeOffice five = nine("e,f,g,h(!i)");
        five.sale(4, 0, 5, 0, 5, true);
        act(five, "1>0");
        due("five of the NAMED", five.hard(0), 0);
        five.now(1701);
        five.dies(8, 1700);
        five.sale(4, 0, 5, 0, 5, true);
        due("five as KNOWN in the YEAR of the SALE", five.hard(0), 0);
        due("four of them later", five.hard(1), 1);
        says(19, "p the PRICE, w WORTH of what was sold");
        weighed("p<w", 32, true, true);
        weighed("p<w", 33, true, false);
        weighed("p>w", 33, true, false);
        weighed("p>w", 34, true, true);
        weighed("p<1", 0, true, true);
        weighed("p>99999", 100000, true, true);
        weighed("p>100000", 100000, true, false);
        says(19, "times thousandths through 1000, rounded down), a the seller's AGE then, v 1 if ADVISED, else 0, t thousandths.");
        weighed("w>32", 5, true, true);
        weighed("w>33", 5, true, false);
        weighed("a>25", 5, true, true);
        weighed("a>26", 5, true, false);
        weighed("v>0", 5, true, true);
        weighed("v>0", 5, false, false);
        weighed("v<1", 5, false, true);
        weighed("v>1", 5, true, false);
        weighed("t>499", 5, true, true);
        weighed("t>500", 5, true, false);
        HopeOffice z = five();
        settle(z, 100, 0, "b(!c);c");
        z.sale(2, 0, 1, 1, 0, true);
        z.sale(2, 0, 15, 1, 0, true);
        z.sale(2, 0, 16, 1, 0, true);
        z.sale(2, 0, 1000, 1, 0, true);
        act(z, "w>0");
        due("66 thousandths of one are none", z.hard(0), 0);
        due("990 thousandths of one are none", z.hard(1), 0);
        due("1056 are one", z.hard(2), 1);
        act(z, "w>65");
        due("all of it", z.hard(3), 1);
        act(z, "w>66");
        due("and no more", z.hard(3), 0);
        says(19, "All is reckoned with 64 bits, as the machine does.");
        weighed("999999*999999*999999*9>0", 1, true, true);
        weighed("999999*999999*999999*10<0", 1, true, true);
        weighed("999999*999999*999999*10>0", 1, true, false);
        weighed("0-999999*999999*999999*10>0", 1, true, true);
        weighed("p-w<0", 1, true, true);
        weighed("p-w*999999*999999*999999>0", 1, true, 1 - 33 * 999999L * 999999 * 999999 > 0);
        weighed("32768*32768*32768*32768*8-1>0", 1, true, true);
        weighed("32768*32768*32768*32768*8<0", 1, true, true);
        weighed("32768*32768*32768*32768*16-p<0", 1, true, true);
        weighed("32768*32768*32768*32768*16+p>0", 1, true, true);
        weighed("32768*32768*32768*32768*16-0<0", 1, true, false);
        long power = 1;
        for (int i = 0; i < 29; i++) {
            power *= 99991;
        }
        weighed("p" + "*p".repeat(28) + "<0", 99991, true, power < 0);
        weighed("p" + "*p".repeat(28) + ">0", 99991, true, power > 0);
        weighed("0<p" + "*p".repeat(28), 99991, true, power > 0);
        weighed("0>p" + "*p".repeat(28), 99991, true, power < 0);
        weighed("1+1*(1+1*(1+1*(1+1*(1+1*(1+1*(1+1*p))))))>13", 7, true, true);
        weighed("1+1*(1+1*(1+1*(1+1*(1+1*(1+1*(1+1*p))))))>14", 7, true, false);
        weighed("14<1+1*(1+1*(1+1*(1+1*(1+1*(1+1*(1+1*p))))))", 7, true, false);
        weighed("15>1+1*(1+1*(1+1*(1+1*(1+1*(1+1*(1+1*p))))))", 7, true, true);
        weighed("10-3-2<6", 1, true, true);
        weighed("10-3-2>4", 1, true, true);
        weighed("2+3*4-p<14", 1, true, true);
        weighed("2+3*4-p>12", 1, true, true);
        weighed("000007<8", 1, true, true);
        weighed("000007>6", 1, true, true);
        weighed("123456>123455", 1, true, true);
        weighed("123456<123457", 1, true, true);
        weighed("0*p+0<0", 1, true, false);
        weighed("0<0", 1, true, false);
        weighed("0>0", 1, true, false);
    }

    private static void theUndoneOnes() {
        says(20, "SALE i is UNDONE: what goes BACK; NONE: no such one, it is, not HARD, the TENANT is KNOWN to be dead.");
        HopeOffice x = village();
        due("the first", x.undo(0), 10);
        due("its YEAR", x.look(0, 8), 1700);
        due("it is none from then on", x.holds(1, 0), 0);
        Supplier<HopeOffice> undone = () -> {
            HopeOffice o = village();
            o.undo(0);
            o.now(1701);
            return o;
        };
        none(undone, "it is UNDONE", o -> o.undo(0));
        none(Bounds::village, "not HARD", o -> o.undo(1));
        none(Bounds::fortySales, "without an ACT", o -> o.undo(0));
        none(Bounds::fallen, "the TENANT is KNOWN to be dead", o -> o.undo(0));
        none(Bounds::village, "sale -1", o -> o.undo(-1));
        none(Bounds::village, "sale 2", o -> o.undo(2));
        for (int far : FAR) {
            none(Bounds::village, "sale " + far, o -> o.undo(far));
        }
        HopeOffice other = village();
        other.dies(3, 1700);
        due("another's TENANT is dead", other.undo(0), 10);
        HopeOffice forty = fortySales();
        act(forty, "p>38");
        due("the fortieth", forty.undo(39), 39);
        due("the thirty-ninth", forty.undo(38), NONE);
        due("sale 40", forty.undo(40), NONE);
        says(20, "each year since made (100 and INTEREST) of it through 100, rounded down (1000000000000 at most).");
        back(0, 20, 1999, 0);
        back(1, 20, 1999, 1);
        back(4, 20, 1700, 4);
        back(4, 20, 1999, 4);
        back(5, 20, 1701, 6);
        back(19, 7, 1700, 19);
        back(19, 7, 1701, 20);
        back(19, 7, 1702, 21);
        back(19, 7, 1703, 22);
        back(99, 1, 1999, 99);
        back(100, 1, 1701, 101);
        back(100000, 0, 1999, 100000);
        back(100000, 5, 1701, 105000);
        long sum = 100000;
        int year = 1700;
        while (sum * 120 / 100 < 1000000000000L) {
            sum = sum * 120 / 100;
            year++;
        }
        back(100000, 20, year, sum);
        back(100000, 20, year + 1, 1000000000000L);
        back(100000, 20, year + 2, 1000000000000L);
        back(100000, 20, 1999, 1000000000000L);
        HopeOffice later = five();
        settle(later, 100, 0, "b(!c);c");
        act(later, "p>0");
        later.now(1702);
        later.sale(2, 0, 500, 1, 100, true);
        later.number(0, 10);
        later.now(1703);
        due("a year since, not three", later.undo(0), 110);
    }

    /** What goes BACK in a year of a PRICE of 1700, by an INTEREST. */
    private static void back(int price, int interest, int year, long want) {
        HopeOffice x = five();
        settle(x, 100, 0, "b(!c);c");
        act(x, "p+1>0");
        x.sale(2, 0, 500, 1, price, true);
        x.number(0, interest);
        x.now(year);
        due(price + " by " + interest + " in " + year, x.undo(0), want);
        due("its YEAR", x.look(0, 8), year);
    }

    /** THE LEAST PRICE of all of c's hope (a WORTH of 66), not ADVISED, by an act. */
    private static void least(String text, int want) {
        HopeOffice x = village();
        due("act " + text, act(x, text), 0);
        due("least by " + text, x.least(2, 0, 1000, false), want);
        due("no SALE was told", x.count(3), 2);
    }

    private static void theLeastPrices() {
        says(21, "the least (0 to 100000) by which it would not be HARD.");
        least("p*2<w", 33);
        least("p*2<w+1", 34);
        least("p<1", 1);
        least("p>0", 0);
        least("0>1", 0);
        least("p<99999", 99999);
        least("p<100000", 100000);
        least("p<100001", NONE);
        least("1>0", NONE);
        least("(p-10)*(p-10)>0", 10);
        least("(p-10)*(p-20)>0", 10);
        least("(p-100000)*(p-100000)>0", 100000);
        least("(p-100001)*(p-100001)>0", NONE);
        least("p*p*p*p+1>0", 55109);
        least("p-32768*32768*32768*32768*8-1>0", 1);
        least("p+32768*32768*32768*32768*8-6>0", 6);
        says(21, "THE LEAST PRICE; NONE: there is none, no such ones.");
        none(Bounds::village, "0 thousandths", o -> o.least(2, 0, 0, true));
        none(Bounds::village, "-1 thousandths", o -> o.least(2, 0, -1, true));
        none(Bounds::village, "1001 thousandths", o -> o.least(2, 0, 1001, true));
        none(Bounds::village, "person -1", o -> o.least(-1, 0, 1, true));
        none(Bounds::village, "person 5", o -> o.least(5, 0, 1, true));
        none(Bounds::village, "settlement -1", o -> o.least(2, -1, 1, true));
        none(Bounds::village, "settlement 2", o -> o.least(2, 2, 1, true));
        for (int far : FAR) {
            none(Bounds::village, "person " + far, o -> o.least(far, 0, 1, true));
            none(Bounds::village, "settlement " + far, o -> o.least(2, far, 1, true));
            none(Bounds::village, "thousandths " + far, o -> o.least(2, 0, far, true));
        }
        none(Bounds::five, "no settlement, no ACT", o -> o.least(2, 0, 1, true));
        HopeOffice x = village();
        due("one thousandth", x.least(2, 0, 1, true), 0);
        due("thirty-one, worth 2", x.least(2, 0, 31, true), 1);
        due("all", x.least(2, 0, 1000, true), 33);
        due("the last person", x.least(4, 0, 1000, true), 0);
        due("not RECKONED, without LIVES", x.least(2, 1, 1000, true), 0);
        due("not RECKONED, the TENANT is dead", fallen().least(2, 0, 1000, true), 0);
        due("without an ACT", fortySales().least(2, 0, 1000, true), 0);
        act(x, "(1-v)*100+v*7>p");
        due("not ADVISED", x.least(2, 0, 1000, false), 100);
        due("ADVISED", x.least(2, 0, 1000, true), 7);
        act(x, "a>p");
        due("by the AGE now", x.least(2, 0, 1000, true), 26);
        x.now(1702);
        due("by the AGE now", x.least(2, 0, 1000, true), 28);
        act(x, "t>p");
        due("by thousandths", x.least(2, 0, 999, true), 999);
    }

    private static void theCovers() {
        says(22, "COVER of a SUM (1 to 100000); NONE: no such ones, one of both is KNOWN to be dead, or has no LIVES.");
        HopeOffice x = village();
        due("of 1", x.cover(0, 1, 1), 0);
        due("of 3", x.cover(0, 1, 3), 1);
        due("of 100000", x.cover(0, 1, 100000), 33333);
        due("of the last person", x.cover(0, 4, 100), 0);
        none(Bounds::village, "a SUM of 0", o -> o.cover(0, 1, 0));
        none(Bounds::village, "a SUM of -1", o -> o.cover(0, 1, -1));
        none(Bounds::village, "a SUM of 100001", o -> o.cover(0, 1, 100001));
        none(Bounds::village, "the greatest int", o -> o.cover(0, 1, Integer.MAX_VALUE));
        none(Bounds::village, "the least int", o -> o.cover(0, 1, Integer.MIN_VALUE));
        none(Bounds::village, "person -1", o -> o.cover(0, -1, 5));
        none(Bounds::village, "person 5", o -> o.cover(0, 5, 5));
        none(Bounds::village, "settlement -1", o -> o.cover(-1, 1, 5));
        none(Bounds::village, "settlement 2", o -> o.cover(2, 1, 5));
        for (int far : FAR) {
            none(Bounds::village, "person " + far, o -> o.cover(0, far, 5));
            none(Bounds::village, "settlement " + far, o -> o.cover(far, 1, 5));
        }
        none(Bounds::village, "a person without LIVES", o -> o.cover(0, 3, 5));
        none(Bounds::village, "a TENANT without LIVES", o -> o.cover(1, 2, 5));
        none(Bounds::fallen, "a TENANT who is dead", o -> o.cover(0, 1, 5));
        Supplier<HopeOffice> widow = () -> {
            HopeOffice o = village();
            o.dies(1, 1700);
            return o;
        };
        none(widow, "a person who is dead", o -> o.cover(0, 1, 5));
        due("another", widow.get().cover(0, 2, 100), 33);
        says(22, "(That PERSON is not the TENANT.)");
        none(Bounds::village, "of the TENANT", o -> o.cover(0, 0, 5));
        says(22, "through HAS of both, rounded down; by DISCOUNT of k and 1, rounded down; all together.");
        HopeOffice y = five();
        settle(y, 100, 4, "c");
        // b dies in the years k 3, 8 or 13, and e is there in each: thrice 33, not 100.
        due("each year is rounded", y.cover(0, 1, 100), 99);
        due("one who isn't named", y.cover(0, 0, 100), 100);
        y.number(0, 10);
        due("each year's DISCOUNT is rounded", y.cover(0, 1, 100), 43);
        says(22, "if that PERSON dies ahead of the TENANT, or in the same year");
        HopeOffice old = newborns();
        // The years k 100 to 109 bring 10, 9, .. 1 of 100.
        due("to the last year of the table", old.cover(0, 1, 100), 55);
        due("in the same year", oldest().cover(0, 1, 100), 100);
        says(22, "COVER on a PERSON by a SETTLEMENT (its TABLE and TENANT) as KNOWN now, in this YEAR");
        x.now(1703);
        due("in 1703, when both die within a year", x.cover(0, 1, 100), 33);
        x.now(1704);
        due("in 1704 the TENANT has no LIVES", x.cover(0, 1, 100), NONE);
    }

    /** a and b are 39, with one life that ends within a year; no interest. */
    private static HopeOffice oldest() {
        HopeOffice x = new HopeOffice();
        x.number(0, 0);
        for (int i = 0; i < 4; i++) {
            x.table(0, i, 4 - i);
        }
        x.person(1661, NONE);
        x.person(1661, NONE);
        settle(x, 100, 0, "b");
        return x;
    }
}
