/** The boundaries of the fall: who is named, what each gets, the chances and the worth of it. */
public final class BoundsOfFallsTest extends Bounds {
    public static void main(String[] args) {
        theNamed();
        theFalls();
        theSharesOfAFund();
        theConditions();
        theChances();
        theWorths();
        end(11, 12, 13, 14);
    }

    private static void theNamed() {
        says(11, "are PERSONS whose letters stand there, and children (born as KNOWN on t) of those behind a * , by numbers, but not the TENANT.");
        HopeOffice x = five();
        settle(x, 1, 0, "p,*b");
        due("nobody", x.named(0, 1700), 0);
        settle(x, 1, 0, "b,b(b|!b)");
        due("one, however often", x.named(1, 1700), 1);
        settle(x, 1, 0, "e,*d(*d)");
        due("one by a letter and as a child", x.named(2, 1700), 1);
        settle(x, 1, 4, "*d");
        due("the TENANT as the only child", x.named(3, 1700), 0);
        settle(x, 1, 0, "*d");
        due("the child, not the parent", x.named(4, 1700), 1);
        settle(x, 1, 0, "*d(d)");
        due("the parent by a letter elsewhere", x.named(5, 1700), 2);
        settle(x, 1, 0, "b(#>99&*d|!(c|p))");
        due("in a condition", x.named(6, 1700), 3);
        HopeOffice full = people(16);
        settle(full, 1, 0, "b,c,d,e;f,g,h,i;j,k,l,m;n,o,p");
        due("fifteen", full.named(0, 1700), 15);
        HopeOffice many = new HopeOffice();
        many.person(1670, NONE);
        for (int i = 1; i < 16; i++) {
            many.person(1690, 0);
        }
        settle(many, 1, 0, "*a");
        due("fifteen children", many.named(0, 1700), 15);
        settle(many, 1, 15, "*a,a");
        due("fourteen children and their parent", many.named(1, 1700), 15);
        HopeOffice heirs = people(1);
        heirs.person(1690, 0);
        heirs.person(1690, NONE);
        settle(heirs, 1, 0, "c");
        due("the TENANT's child is not named by itself", heirs.named(0, 1700), 1);
        settle(heirs, 1, 0, "c,*a");
        due("but behind a *", heirs.named(1, 1700), 2);
        says(11, "(Only who is there as KNOWN on t.)");
        HopeOffice late = new HopeOffice();
        late.now(1702);
        late.person(1690, NONE);
        late.person(1690, 0);
        settle(late, 1, 1, "a");
        due("the first person on 1702", late.named(0, 1702), 1);
        due("nobody was there on 1701", late.named(0, 1701), 0);
        HopeOffice child = people(2);
        settle(child, 1, 1, "*a");
        child.now(1702);
        child.person(1690, 0);
        due("the first person's child on 1702", child.named(0, 1702), 1);
        due("it was not there on 1701", child.named(0, 1701), 0);
        HopeOffice y = five();
        settle(y, 1, 0, "e,f,*d,*f");
        due("e", y.named(0, 1700), 1);
        y.now(1702);
        y.person(1690, NONE);
        y.person(1695, 3);
        y.person(1702, 5);
        due("e, as known a year ahead of the others", y.named(0, 1701), 1);
        due("with f, a child of d and a child of f", y.named(0, 1702), 4);
        y.dies(4, 1700);
        due("the dead are named", y.named(0, 1702), 4);
        due("as known on the last year", y.named(0, 1999), 4);
        says(11, "How many are NAMED in SETTLEMENT s as KNOWN on t; NONE: no such ones.");
        none(Bounds::village, "settlement -1", o -> o.named(-1, 1700));
        none(Bounds::village, "settlement 2", o -> o.named(2, 1700));
        none(Bounds::village, "settlement 10", o -> o.named(10, 1700));
        due("the last settlement", village().named(1, 1700), 2);
        due("the tenth", tenFunds().named(9, 1700), 1);
        none(Bounds::tenFunds, "settlement 10 of ten", o -> o.named(10, 1700));
        none(Bounds::village, "the year 1699", o -> o.named(0, 1699));
        none(Bounds::village, "the year 2000", o -> o.named(0, 2000));
        for (int far : FAR) {
            none(Bounds::village, "settlement " + far, o -> o.named(far, 1700));
            none(Bounds::village, "the year " + far, o -> o.named(0, far));
        }
    }

    private static void theFalls() {
        says(12, "What THE FALL of SETTLEMENT s gives PERSON o, as KNOWN now, PERSONS in a set (bits) being alive; NONE: no such ones.");
        HopeOffice x = village();
        due("nobody alive", x.falls(0, 0, 2), 0);
        due("all alive", x.falls(0, 31, 2), 100);
        due("all but the highest", x.falls(0, 15, 2), 100);
        due("the TENANT alone", x.falls(0, 1, 0), 0);
        due("one who isn't named alone", x.falls(0, 16, 4), 0);
        due("the last person", x.falls(1, 16, 4), 60);
        none(Bounds::village, "a set with nobody's bit", o -> o.falls(0, 32, 2));
        none(Bounds::village, "a set with somebody's and nobody's", o -> o.falls(0, 63, 2));
        none(Bounds::village, "bit 16", o -> o.falls(0, 1 << 16, 2));
        none(Bounds::village, "bit 30", o -> o.falls(0, 4 + (1 << 30), 2));
        none(Bounds::village, "the highest bit", o -> o.falls(0, Integer.MIN_VALUE, 2));
        none(Bounds::village, "all bits", o -> o.falls(0, -1, 2));
        none(Bounds::village, "person -1", o -> o.falls(0, 4, -1));
        none(Bounds::village, "person 5", o -> o.falls(0, 4, 5));
        none(Bounds::village, "person 16", o -> o.falls(0, 4, 16));
        none(Bounds::village, "settlement -1", o -> o.falls(-1, 4, 2));
        none(Bounds::village, "settlement 2", o -> o.falls(2, 4, 2));
        for (int far : FAR) {
            none(Bounds::village, "settlement " + far, o -> o.falls(far, 4, 2));
            none(Bounds::village, "person " + far, o -> o.falls(0, 4, far));
        }
        HopeOffice full = people(16);
        settle(full, 100000, 0, "p(#=1)");
        due("sixteen bits", full.falls(0, 65535, 15), 100000);
        due("fifteen bits", full.falls(0, 32767, 15), 0);
        due("seventeen bits", full.falls(0, 65536 + 65535, 15), NONE);
        settle(full, 9, 0, "b,c,d,e(#=15);f,g,h,i(p);j,k,l,m;n,o");
        due("all fifteen", full.falls(1, 65535, 1), 9);
        due("the TENANT's bit or not", full.falls(1, 65534, 1), 9);
        due("fourteen", full.falls(1, 65532, 5), 9);
        x.dies(2, 1700);
        due("one who is known to be dead may be in the set", x.falls(0, 4, 2), 100);
    }

    /** a to d of 1650; e, f and g are d's children; a settlement of a FUND by a text. */
    private static HopeOffice family(int fund, String text) {
        HopeOffice x = new HopeOffice();
        for (int i = 0; i < 4; i++) {
            x.person(1650, NONE);
        }
        for (int i = 0; i < 3; i++) {
            x.person(1680, 3);
        }
        due("settle " + text, settle(x, fund, 0, text), 0);
        return x;
    }

    /** What those of a set get, b to g, one after the other. */
    private static void gets(int fund, String text, int alive, int... want) {
        HopeOffice x = family(fund, text);
        for (int o = 1; o < 7; o++) {
            due(fund + " by " + text + ", alive " + alive + ", to " + (char) ('a' + o), x.falls(0, alive, o), want[o - 1]);
        }
        due(fund + " by " + text + ", alive " + alive + ", to the TENANT", x.falls(0, alive, 0), 0);
    }

    private static void theSharesOfAFund() {
        says(12, "gives: each TAKER who is alive their part of the FUND, rounded down;");
        gets(1, "b", 126, 1, 0, 0, 0, 0, 0);
        gets(1, "b/2", 126, 0, 0, 0, 0, 0, 0);
        gets(2, "b/2", 126, 1, 0, 0, 0, 0, 0);
        gets(3, "b/2", 126, 1, 0, 0, 0, 0, 0);
        gets(8, "b/9", 126, 0, 0, 0, 0, 0, 0);
        gets(9, "b/9", 126, 1, 0, 0, 0, 0, 0);
        gets(100000, "b/9", 126, 11111, 0, 0, 0, 0, 0);
        gets(100000, "b", 126, 100000, 0, 0, 0, 0, 0);
        gets(10, "b", 124, 0, 0, 0, 0, 0, 0);
        says(12, "children: it is parted alike to those who are alive, rounded down.");
        gets(11, "*d/2", 126, 0, 0, 0, 1, 1, 1);
        gets(11, "*d/2", 48, 0, 0, 0, 2, 2, 0);
        gets(11, "*d/2", 96, 0, 0, 0, 0, 2, 2);
        gets(11, "*d/2", 64, 0, 0, 0, 0, 0, 5);
        gets(11, "*d/2", 14, 0, 0, 0, 0, 0, 0);
        gets(2, "*d", 126, 0, 0, 0, 0, 0, 0);
        gets(3, "*d", 126, 0, 0, 0, 1, 1, 1);
        gets(5, "*d", 126, 0, 0, 0, 1, 1, 1);
        gets(10, "*b", 126, 0, 0, 0, 0, 0, 0);
        gets(10, "*p", 126, 0, 0, 0, 0, 0, 0);
        HopeOffice heirs = people(1);
        heirs.person(1690, 0);
        heirs.person(1690, 0);
        heirs.person(1670, NONE);
        settle(heirs, 9, 0, "*a");
        due("the TENANT's first child", heirs.falls(0, 15, 1), 4);
        due("the TENANT's second child", heirs.falls(0, 15, 2), 4);
        due("who is no child", heirs.falls(0, 15, 3), 0);
        settle(heirs, 9, 3, "a(#=3&*a)");
        due("the first person is one of three", heirs.falls(1, 15, 0), 9);
        due("the first person is one of two", heirs.falls(1, 11, 0), 0);
        settle(heirs, 9, 3, "b(a);b/2");
        due("the first person is alive", heirs.falls(2, 3, 1), 9);
        due("the first person is dead", heirs.falls(2, 2, 1), 4);
        says(12, "What comes to nobody stays with the trustees; all SHARES are asked by the whole FUND;");
        gets(10, "b/2", 126, 5, 0, 0, 0, 0, 0);
        gets(10, "b/2,c/2", 4, 0, 5, 0, 0, 0, 0);
        gets(12, "b/2,c/3,d/4", 126, 6, 4, 2, 0, 0, 0);
        gets(13, "b/2,c/3,d/4", 126, 6, 4, 3, 0, 0, 0);
        gets(10, "b/3,c/3,d/3", 126, 3, 3, 3, 0, 0, 0);
        says(12, "what would come together to more than the FUND is given as far as it goes, in order.)");
        gets(10, "b/2,c/2", 126, 5, 5, 0, 0, 0, 0);
        gets(11, "b/2,c/2,d/2", 126, 5, 5, 1, 0, 0, 0);
        gets(10, "b/2,c/2,d/2", 126, 5, 5, 0, 0, 0, 0);
        gets(10, "b/2,c/2,d/2", 124, 0, 5, 5, 0, 0, 0);
        gets(10, "b,c", 126, 10, 0, 0, 0, 0, 0);
        gets(10, "c,b", 126, 0, 10, 0, 0, 0, 0);
        gets(10, "c/2,*d", 126, 0, 5, 0, 3, 2, 0);
        gets(10, "*d,c", 126, 0, 1, 0, 3, 3, 3);
        gets(1, "b,c,d,*d", 126, 1, 0, 0, 0, 0, 0);
        says(12, "One letter twice gets both.");
        gets(10, "b/2,b/3", 126, 8, 0, 0, 0, 0, 0);
        gets(10, "b/2,b/2", 126, 10, 0, 0, 0, 0, 0);
        gets(10, "b/2,b", 126, 10, 0, 0, 0, 0, 0);
        gets(10, "b/9,b/9,b/9,b/9", 126, 4, 0, 0, 0, 0, 0);
        gets(12, "e/2,*d/2", 126, 0, 0, 0, 8, 2, 2);
        gets(12, "*d/4,*d/4", 126, 0, 0, 0, 2, 2, 2);
        says(12, "the first CLAUSE whose C holds (none: always)");
        gets(10, "b;c", 4, 0, 0, 0, 0, 0, 0);
        gets(10, "b(b);c", 4, 0, 10, 0, 0, 0, 0);
        gets(10, "b(b);c(c);d", 6, 10, 0, 0, 0, 0, 0);
        gets(10, "b(c);c(b)", 2, 0, 0, 0, 0, 0, 0);
        gets(10, "b(c);c(d)", 2, 0, 0, 0, 0, 0, 0);
        gets(10, "b(d);b(d);b(d);b(d);b(d);b(d);b(d);b/2,c/2", 6, 5, 5, 0, 0, 0, 0);
        gets(10, "b(d);b(d);b(d);b(d);b(d);b(d);b(d);b/5,c,d,e(!d)", 22, 2, 8, 0, 0, 0, 0);
        gets(9, "b,b,b,b(d);".repeat(7) + "b/9,c/9,b/9,c/9", 6, 2, 2, 0, 0, 0, 0);
        gets(9, "b/9,b/9,b/9,b/9(b);".repeat(3) + "c", 2, 4, 0, 0, 0, 0, 0);
    }

    /** Whether a condition holds for a set of those alive, b among them; c, d and d's children are named behind it. */
    private static void holdsFor(String condition, int alive, boolean want) {
        HopeOffice x = family(1, "b(" + condition + ");b/2(c|d|*d)");
        due(condition + " with " + alive, x.falls(0, alive, 1), want ? 1 : 0);
    }

    private static void theConditions() {
        says(12, "how many of all that are NAMED are alive.");
        // Six are named: b, c, d and the three children; the TENANT's bit counts for nothing.
        holdsFor("#=6", 126, true);
        holdsFor("#=6", 127, true);
        holdsFor("#=06", 126, true);
        holdsFor("#>5", 126, true);
        holdsFor("#>6", 126, false);
        holdsFor("#<7", 126, true);
        holdsFor("#<6", 126, false);
        holdsFor("#=1", 2, true);
        holdsFor("#=1", 3, true);
        holdsFor("#=01", 2, true);
        holdsFor("#=10", 2, false);
        holdsFor("#<10", 126, true);
        holdsFor("#>10", 126, false);
        holdsFor("#>0", 2, true);
        holdsFor("#>00", 2, true);
        holdsFor("#<0", 2, false);
        holdsFor("#<0", 126, false);
        holdsFor("#<1", 2, false);
        holdsFor("#<2", 2, true);
        holdsFor("#<99", 126, true);
        holdsFor("#>99", 126, false);
        holdsFor("#=99", 126, false);
        holdsFor("#=0", 2, false);
        holdsFor("!#=0", 2, true);
        holdsFor("#=00|#=01", 2, true);
        HopeOffice nobody = people(1);
        settle(nobody, 5, 0, "p(#=0);p");
        due("none is there", nobody.falls(0, 1, 0), 0);
        HopeOffice few = people(2);
        settle(few, 8, 0, "b(#=1&#<2&#>0)");
        due("of one named one", few.falls(0, 2, 1), 8);
        says(12, "a letter (that PERSON is alive), * and a letter (some child of that PERSON is)");
        holdsFor("b", 2, true);
        holdsFor("c", 2, false);
        holdsFor("*d", 2, false);
        holdsFor("*d", 2 + 16, true);
        holdsFor("*d", 2 + 64, true);
        holdsFor("*d", 126, true);
        holdsFor("*b", 126, false);
        holdsFor("*a", 127, false);
        HopeOffice heir = people(1);
        heir.person(1690, 0);
        heir.person(1690, 0);
        settle(heir, 6, 1, "c(*a);c/2");
        due("the TENANT is no child that is alive", heir.falls(0, 2 + 4, 2), 6);
        settle(heir, 6, 1, "a(*a);a/2");
        due("the TENANT alone", heir.falls(1, 1 + 2, 0), 3);
        due("the TENANT and another child", heir.falls(1, 1 + 2 + 4, 0), 6);
        says(12, "(Of a PERSON that is not there: not alive.)");
        holdsFor("p", 126, false);
        holdsFor("!p", 126, true);
        holdsFor("*p", 126, false);
        holdsFor("!*p", 126, true);
        HopeOffice later = people(2);
        settle(later, 4, 0, "b(!p&!d);b/2");
        due("d is not there", later.falls(0, 2, 1), 4);
        later.person(1690, NONE);
        later.person(1690, NONE);
        due("d is there and dead", later.falls(0, 2, 1), 4);
        due("d is there and alive", later.falls(0, 10, 1), 2);
        says(12, "C: PARTS with a | between two, one of which must hold; a PART: PIECES with an & between two, all of which must;");
        holdsFor("b|c&d", 2, true);
        holdsFor("c&d|b", 2, true);
        holdsFor("(b|c)&d", 2, false);
        holdsFor("b&c|b&d", 6, true);
        holdsFor("b&c&d", 6, false);
        holdsFor("b&c&d", 14, true);
        holdsFor("c|d|*d", 2, false);
        holdsFor("c|d|b", 2, true);
        holdsFor("!b|c", 2, false);
        holdsFor("!b|c", 6, true);
        holdsFor("!(b|c)", 2, false);
        holdsFor("!!b", 2, true);
        holdsFor("!!!!!b", 2, false);
        holdsFor("!c&b", 2, true);
        holdsFor("!(c&b)", 2, true);
        holdsFor("b&(c|(d|(c&d|(b))))", 2, true);
        holdsFor("d|b&(d|b&(d|b&(d|b&(d|b&(c|b)))))", 2, true);
        holdsFor("d|b&(d|b&(d|b&(d|b&(d|b&(c|d)))))", 2, false);
    }

    private static void theChances() {
        says(13, "Of PERSON o in SETTLEMENT s as KNOWN on t in y, what 0: of all BRANCHES WEIGHT by which THE FALL gives something to them, together; 1 THE WHOLE;");
        HopeOffice x = village();
        due("c's chance", x.chance(0, 2, 1700, 1700, 0), 6);
        due("b's chance", x.chance(0, 1, 1700, 1700, 0), 2);
        due("THE WHOLE", x.chance(0, 2, 1700, 1700, 1), 9);
        due("the last person's chance", x.chance(0, 4, 1700, 1700, 0), 0);
        due("THE WHOLE without a hope", x.chance(0, 4, 1700, 1700, 1), 9);
        none(Bounds::village, "what 2", o -> o.chance(0, 2, 1700, 1700, 2));
        none(Bounds::village, "what -1", o -> o.chance(0, 2, 1700, 1700, -1));
        HopeOffice one = five();
        settle(one, 1, 0, "e");
        due("a FUND of 1 is something", one.chance(0, 4, 1700, 1700, 0), 4);
        settle(one, 1, 0, "e/2");
        due("a half of it is nothing", one.chance(1, 4, 1700, 1700, 0), 0);
        settle(one, 1, 0, "p");
        due("nobody is named", one.chance(2, 4, 1700, 1700, 1), 1);
        due("nobody has a chance", one.chance(2, 4, 1700, 1700, 0), 0);
        says(13, "NONE: not RECKONED, no such ones (y from t on to 1999).");
        none(Bounds::village, "y a year ahead of t", o -> o.chance(0, 2, 1701, 1700, 1));
        none(Bounds::village, "y 1699", o -> o.chance(0, 2, 1700, 1699, 1));
        none(Bounds::village, "t 1699", o -> o.chance(0, 2, 1699, 1700, 1));
        none(Bounds::village, "t and y 1699", o -> o.chance(0, 2, 1699, 1699, 1));
        none(Bounds::village, "person -1", o -> o.chance(0, -1, 1700, 1700, 1));
        none(Bounds::village, "person 5", o -> o.chance(0, 5, 1700, 1700, 1));
        none(Bounds::village, "settlement -1", o -> o.chance(-1, 2, 1700, 1700, 1));
        none(Bounds::village, "settlement 2", o -> o.chance(2, 2, 1700, 1700, 1));
        for (int far : FAR) {
            none(Bounds::village, "settlement " + far, o -> o.chance(far, 2, 1700, 1700, 1));
            none(Bounds::village, "person " + far, o -> o.chance(0, far, 1700, 1700, 1));
            none(Bounds::village, "t " + far, o -> o.chance(0, 2, far, 1700, 1));
            none(Bounds::village, "y " + far, o -> o.chance(0, 2, 1700, far, 1));
            none(Bounds::village, "t and y " + far, o -> o.chance(0, 2, far, far, 1));
            none(Bounds::village, "what " + far, o -> o.chance(0, 2, 1700, 1700, far));
        }
        HopeOffice late = new HopeOffice();
        late.now(1995);
        late.table(0, 0, 9);
        late.table(0, 1, 8);
        late.person(1990, NONE);
        late.person(1995, NONE);
        settle(late, 5, 0, "b");
        due("y 1999", late.chance(0, 1, 1995, 1999, 1), 81);
        due("t and y 1999", late.chance(0, 1, 1999, 1999, 1), 81);
        due("y 2000", late.chance(0, 1, 1995, 2000, 1), NONE);
        due("t and y 2000", late.chance(0, 1, 2000, 2000, 1), NONE);
        says(13, "It is not RECKONED if more than four of the NAMED are not KNOWN to be dead,");
        HopeOffice four = nine("e,f,g,h");
        due("four", four.chance(0, 4, 1700, 1700, 1), 256);
        settle(four, 100, 0, "e(!f);f");
        due("two behind four", four.chance(1, 4, 1700, 1700, 1), 16);
        due("f is alive", four.chance(1, 4, 1700, 1700, 0), 0);
        settle(four, 100, 1, "e(!c);c");
        due("e, behind four", four.chance(0, 4, 1700, 1700, 0), 256);
        due("e's worth, behind four", four.worth(0, 4, 1700, 1700), 100);
        due("e, if c is dead", four.chance(2, 4, 1700, 1700, 0), 4 * (1 + 2 + 3));
        due("e's worth, if c is dead", four.worth(2, 4, 1700, 1700), 11 + 22 + 33);
        HopeOffice mixed = nine("b,c,e,f");
        settle(mixed, 100, 0, "b,c");
        due("e, if b and c are dead", mixed.chance(0, 4, 1700, 1700, 0), 16);
        due("e, where it is not named", mixed.chance(1, 4, 1700, 1700, 0), 0);
        HopeOffice fifth = nine("e,f,g,h(!i)");
        due("five", fifth.chance(0, 4, 1700, 1700, 1), NONE);
        due("five", fifth.chance(0, 4, 1700, 1700, 0), NONE);
        fifth.now(1701);
        fifth.dies(8, 1700);
        due("four and a dead one", fifth.chance(0, 4, 1701, 1701, 1), 256);
        due("five as KNOWN ahead of it", fifth.chance(0, 4, 1700, 1701, 1), NONE);
        due("who is KNOWN to be dead is dead", fifth.chance(0, 4, 1701, 1701, 0), 256);
        says(13, "the TENANT is, some HAS is 0, or the TENANT is not there as KNOWN on t.");
        HopeOffice y = village();
        y.now(1701);
        y.dies(0, 1700);
        due("the TENANT is KNOWN to be dead", y.chance(0, 2, 1701, 1701, 1), NONE);
        due("the TENANT was not, on 1700", y.chance(0, 2, 1700, 1700, 1), 9);
        due("a TENANT without LIVES", y.chance(1, 2, 1700, 1700, 1), NONE);
        settle(y, 100, 1, "c,d/2");
        due("a NAMED one without LIVES", y.chance(2, 2, 1701, 1701, 1), NONE);
        y.dies(3, 1650);
        due("unless KNOWN to be dead", y.chance(2, 2, 1701, 1701, 1), 9);
        due("KNOWN too late", y.chance(2, 2, 1700, 1701, 1), NONE);
        y.person(1691, NONE);
        settle(y, 100, 5, "c");
        due("the TENANT is there on 1701", y.chance(3, 2, 1701, 1701, 1), 12);
        due("but not on 1700", y.chance(3, 2, 1700, 1701, 1), NONE);
        due("a dead TENANT, not there on 1700", y.dies(5, 1701), true);
        due("is neither reckoned on 1700", y.chance(3, 2, 1700, 1701, 1), NONE);
        says(13, "HAS: LIVES at the AGE in y.");
        due("a has one life at 39", x.chance(0, 2, 1700, 1703, 1), 9);
        due("and none at 40", x.chance(0, 2, 1700, 1704, 1), NONE);
        HopeOffice last = five();
        settle(last, 100, 1, "a");
        due("a NAMED one with one life", last.chance(0, 0, 1700, 1700, 1), 3);
        due("who can't outlive the TENANT", last.chance(0, 0, 1700, 1700, 0), 0);
        due("whose hope is worth nothing", last.worth(0, 0, 1700, 1700), 0);
        says(13, "with LIVES of the TABLE");
        HopeOffice tables = five();
        tables.table(3, 0, 7);
        tables.table(3, 1, 7);
        tables.table(3, 2, 7);
        tables.table(3, 3, 7);
        feed(tables, "e");
        tables.settle(5, 1, 3, 1);
        due("of TABLE 3", tables.chance(0, 4, 1700, 1700, 1), 49);
        feed(tables, "e");
        tables.settle(5, 1, 2, 1);
        due("of an empty TABLE", tables.chance(1, 4, 1700, 1700, 1), NONE);
        says(13, "The TENANT dies in the k-th year (k from 0 on): LIVES at AGE and k, less LIVES at AGE and k and 1;");
        HopeOffice old = newborns();
        due("THE WHOLE", old.chance(0, 1, 1700, 1700, 1), 100);
        due("to the last year of the table", old.chance(0, 1, 1700, 1700, 0), 45);
        HopeOffice soon = five();
        soon.person(1661, NONE);
        settle(soon, 100, 5, "b");
        due("the year k 0", soon.chance(0, 1, 1700, 1700, 0), 3);
    }

    private static void theWorths() {
        says(14, "`long worth(int s, int o, int t, int y)`: WORTH; NONE: likewise.");
        due("c's", village().worth(0, 2, 1700, 1700), 66);
        due("who has no hope", village().worth(0, 0, 1700, 1700), 0);
        due("the last person's", village().worth(0, 4, 1700, 1700), 0);
        none(Bounds::village, "y ahead of t", o -> o.worth(0, 2, 1701, 1700));
        none(Bounds::village, "t 1699", o -> o.worth(0, 2, 1699, 1700));
        none(Bounds::village, "y 2000", o -> o.worth(0, 2, 1700, 2000));
        none(Bounds::village, "no LIVES in 1704", o -> o.worth(0, 2, 1700, 1704));
        none(Bounds::village, "a TENANT without LIVES", o -> o.worth(1, 2, 1700, 1700));
        none(Bounds::fallen, "a TENANT who is dead", o -> o.worth(0, 2, 1705, 1705));
        none(Bounds::village, "person -1", o -> o.worth(0, -1, 1700, 1700));
        none(Bounds::village, "person 5", o -> o.worth(0, 5, 1700, 1700));
        none(Bounds::village, "settlement -1", o -> o.worth(-1, 2, 1700, 1700));
        none(Bounds::village, "settlement 2", o -> o.worth(2, 2, 1700, 1700));
        none(() -> nine("e,f,g,h(!i)"), "five of the NAMED", o -> o.worth(0, 4, 1700, 1700));
        for (int far : FAR) {
            none(Bounds::village, "settlement " + far, o -> o.worth(far, 2, 1700, 1700));
            none(Bounds::village, "person " + far, o -> o.worth(0, far, 1700, 1700));
            none(Bounds::village, "t " + far, o -> o.worth(0, 2, far, 1700));
            none(Bounds::village, "y " + far, o -> o.worth(0, 2, 1700, far));
        }
        HopeOffice late = new HopeOffice();
        late.number(0, 0);
        late.now(1995);
        late.table(0, 0, 9);
        late.table(0, 1, 9);
        late.person(1980, NONE);
        late.person(1995, NONE);
        settle(late, 50, 0, "b");
        due("y 1999", late.worth(0, 1, 1995, 1999), 50);
        due("t and y 1999", late.worth(0, 1, 1999, 1999), 50);
        says(14, "together, through THE WHOLE, rounded down; this times DISCOUNT of k and 1 years through 1000000, rounded down; all together.");
        HopeOffice x = five();
        settle(x, 100, 1, "e");
        // b dies in the years k 3, 8 or 13; e is alive in each: thrice 33, not 100.
        due("each year is rounded", x.worth(0, 4, 1700, 1700), 99);
        due("though nothing can be lost", x.chance(0, 4, 1700, 1700, 0), 12);
        x.number(0, 10);
        // DISCOUNTS 683011, 424094, 263327 of 33: 22, 13 and 8.
        due("each year's DISCOUNT is rounded", x.worth(0, 4, 1700, 1700), 43);
        HopeOffice alone = five();
        settle(alone, 100, 0, "c");
        due("200 through 3", alone.worth(0, 2, 1700, 1700), 66);
        settle(alone, 100, 0, "p");
        due("a WHOLE of 1, and nobody named", alone.worth(1, 2, 1700, 1700), 0);
        HopeOffice soon = five();
        soon.number(0, 5);
        soon.person(1661, NONE);
        settle(soon, 100, 5, "e");
        due("the year k 0 has a DISCOUNT of one year", soon.worth(0, 4, 1700, 1700), 95);
        settle(soon, 1, 5, "e");
        due("a FUND of 1, less a DISCOUNT", soon.worth(1, 4, 1700, 1700), 0);
        HopeOffice old = newborns();
        // The years k 100 to 108 bring 9, 8, .. 1 of 100.
        due("to the last year of the table", old.worth(0, 1, 1700, 1700), 45);
        due("an old TENANT", old.worth(1, 0, 1700, 1709), 100);
        due("one who is too old", old.worth(1, 0, 1700, 1710), NONE);
        HopeOffice big = new HopeOffice();
        big.number(0, 0);
        for (int i = 0; i <= 10; i++) {
            big.table(0, i, 200);
        }
        big.person(1600, NONE);
        for (int i = 0; i < 4; i++) {
            big.person(1700, NONE);
        }
        settle(big, 100000, 0, "b(b&c&d&e)");
        due("the greatest numbers", big.worth(0, 1, 1700, 1700), 100000);
        due("the greatest WHOLE", big.chance(0, 1, 1700, 1700, 1), 320000000000L);
    }
}
