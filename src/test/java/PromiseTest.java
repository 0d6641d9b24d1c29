/** Each promise by itself: ordinary calls, the edges that the document names, and wrong inputs. */
public final class PromiseTest {
    private static int wrong = 0;
    private static int promise = 0;

    private static void due(String call, long got, long want) {
        if (got != want) {
            wrong++;
            System.out.println("promise " + promise + ": " + call + " answered " + got + ", due is " + want);
        }
    }

    private static void due(String call, boolean got, boolean want) {
        due(call, got ? 1 : 0, want ? 1 : 0);
    }

    /** Feeds a text with blanks behind it; what the last feed answered. */
    private static int feed(HopeOffice x, String text) {
        int answer = 0;
        for (int at = 0; at < text.length(); at += 20) {
            int[] five = new int[5];
            for (int i = 0; i < 20; i++) {
                int sign = at + i < text.length() ? text.charAt(at + i) : ' ';
                five[i / 4] |= sign << (24 - 8 * (i % 4));
            }
            answer = x.feed(five[0], five[1], five[2], five[3], five[4]);
        }
        return answer;
    }

    private static int settle(HopeOffice x, int fund, int tenant, String text) {
        feed(x, text);
        return x.settle(fund, tenant, 0, text.length());
    }

    private static int act(HopeOffice x, String text) {
        feed(x, text);
        return x.act(text.length());
    }

    private static HopeOffice withPersons(int many) {
        HopeOffice x = new HopeOffice();
        for (int i = 0; i < many; i++) {
            x.person(1670, -1);
        }
        return x;
    }

    /** LIVES 4 to 20, 2 at 30, 0 from 40 on, without interest; a is 36 in 1700, b and c are 26, d is 50. */
    private static HopeOffice small() {
        HopeOffice x = new HopeOffice();
        x.number(0, 0);
        x.table(0, 0, 4);
        x.table(0, 1, 4);
        x.table(0, 2, 4);
        x.table(0, 3, 2);
        x.person(1664, -1);
        x.person(1674, -1);
        x.person(1674, -1);
        x.person(1650, -1);
        return x;
    }

    public static void main(String[] args) {
        newObject();
        now();
        person();
        dies();
        table();
        lives();
        number();
        discount();
        feed();
        settle();
        settleFaults();
        named();
        falls();
        chance();
        worth();
        sale();
        notice();
        charge();
        act();
        hard();
        undo();
        least();
        cover();
        gain();
        paid();
        holds();
        papers();
        look();
        count();
        System.out.println(wrong == 0 ? "all promises are kept" : wrong + " answers are not as due");
        if (wrong != 0) {
            System.exit(1);
        }
    }

    private static void newObject() {
        promise = 1;
        HopeOffice x = new HopeOffice();
        int[] first = {1700, 0, 0, 0, 0, 0, 0, 0, 5, 0};
        for (int i = 0; i < first.length; i++) {
            due("count(" + i + ")", x.count(i), first[i]);
        }
        for (int t = 0; t < 4; t++) {
            due("lives", x.lives(t, 0), 0);
        }
        due("falseOnes()", x.falseOnes(), 0);
        HopeOffice other = new HopeOffice();
        x.person(1700, -1);
        due("another object's persons", other.count(1), 0);
    }

    private static void now() {
        promise = 2;
        HopeOffice x = new HopeOffice();
        due("now(1699)", x.now(1699), false);
        due("now(2000)", x.now(2000), false);
        due("now(1700)", x.now(1700), true);
        due("now(1701)", x.now(1701), true);
        due("now(1700)", x.now(1700), false);
        due("count(0)", x.count(0), 1701);
        due("now(1999)", x.now(1999), true);
        due("now(1999)", x.now(1999), true);
        due("count(0)", x.count(0), 1999);
        due("now(MIN)", x.now(Integer.MIN_VALUE), false);
    }

    private static void person() {
        promise = 3;
        HopeOffice x = new HopeOffice();
        due("parent of nobody", x.person(1700, 0), -1);
        due("born 1599", x.person(1599, -1), -1);
        due("born 1600", x.person(1600, -1), 0);
        due("born 1701", x.person(1701, -1), -1);
        due("born with the parent", x.person(1600, 0), 1);
        due("born 1700", x.person(1700, 0), 2);
        due("ahead of the parent", x.person(1699, 2), -1);
        due("parent -2", x.person(1700, -2), -1);
        due("parent 3", x.person(1700, 3), -1);
        for (int i = 3; i < 16; i++) {
            due("person", x.person(1650, -1), i);
        }
        due("a seventeenth", x.person(1650, -1), -1);
        due("count(1)", x.count(1), 16);
    }

    private static void dies() {
        promise = 4;
        HopeOffice x = new HopeOffice();
        x.person(1690, -1);
        x.person(1690, -1);
        due("of nobody", x.dies(2, 1700), false);
        due("of -1", x.dies(-1, 1700), false);
        due("ahead of birth", x.dies(0, 1689), false);
        due("behind now", x.dies(0, 1701), false);
        due("in the year of birth", x.dies(0, 1690), true);
        due("twice", x.dies(0, 1695), false);
        due("count(40)", x.count(40), 1690);
        due("in this year", x.dies(1, 1700), true);
        due("count(41)", x.count(41), 1700);
    }

    private static void table() {
        promise = 5;
        HopeOffice x = new HopeOffice();
        due("201", x.table(3, 0, 201), false);
        due("-1", x.table(3, 0, -1), false);
        due("200", x.table(3, 0, 200), true);
        due("above the one ahead", x.table(3, 2, 1), false);
        due("like the one ahead", x.table(3, 1, 200), true);
        due("below the one behind", x.table(3, 0, 199), false);
        due("like the one behind", x.table(3, 0, 200), true);
        for (int i = 2; i <= 10; i++) {
            due("row " + i, x.table(3, i, 7), true);
        }
        due("row 11", x.table(3, 11, 0), false);
        due("row -1", x.table(3, -1, 0), false);
        due("table 4", x.table(4, 0, 0), false);
        due("table -1", x.table(-1, 0, 0), false);
        due("row 10 again", x.table(3, 10, 0), true);
        due("the others stay", x.lives(2, 0), 0);
    }

    private static void lives() {
        promise = 6;
        HopeOffice x = new HopeOffice();
        x.table(1, 0, 200);
        x.table(1, 1, 193);
        for (int i = 2; i <= 10; i++) {
            x.table(1, i, 9);
        }
        due("at 0", x.lives(1, 0), 200);
        due("7 of ten years, rounded down", x.lives(1, 1), 200);
        due("14 through 10", x.lives(1, 2), 199);
        due("63 through 10", x.lives(1, 9), 194);
        due("at 10", x.lives(1, 10), 193);
        due("at 100", x.lives(1, 100), 9);
        due("at 101", x.lives(1, 101), 9);
        due("at 109", x.lives(1, 109), 1);
        due("at 110", x.lives(1, 110), 0);
        due("at 111", x.lives(1, 111), 0);
        due("at 400", x.lives(1, 400), 0);
        due("at 401", x.lives(1, 401), -1);
        due("at -1", x.lives(1, -1), -1);
        due("of 4", x.lives(4, 1), -1);
        due("of -1", x.lives(-1, 1), -1);
    }

    private static void number() {
        promise = 7;
        HopeOffice x = new HopeOffice();
        due("interest 20", x.number(0, 20), true);
        due("interest 21", x.number(0, 21), false);
        due("interest -1", x.number(0, -1), false);
        due("duty 50", x.number(1, 50), true);
        due("duty 51", x.number(1, 51), false);
        due("duty -1", x.number(1, -1), false);
        due("what 2", x.number(2, 1), false);
        due("what -1", x.number(-1, 1), false);
        due("count(8)", x.count(8), 20);
        due("count(9)", x.count(9), 50);
        due("interest 0", x.number(0, 0), true);
        due("count(8)", x.count(8), 0);
    }

    private static void discount() {
        promise = 8;
        HopeOffice x = new HopeOffice();
        due("of 0", x.discount(0), 1000000);
        due("of 3", x.discount(3), 863836);
        due("of -1", x.discount(-1), -1);
        due("of 401", x.discount(401), -1);
        due("of 400", x.discount(400), 0);
        x.number(0, 0);
        due("of 400 without interest", x.discount(400), 1000000);
        x.number(0, 20);
        due("of 3 by 20", x.discount(3), 578703);
    }

    private static void feed() {
        promise = 9;
        HopeOffice x = withPersons(3);
        for (int i = 1; i <= 5; i++) {
            due("feed", x.feed(0, 0, 0, 0, 0), 20 * i);
        }
        due("a sixth", x.feed(0, 0, 0, 0, 0), -1);
        due("count(6)", x.count(6), 100);
        due("a fault at its first byte", x.settle(1, 0, 0, 1), -1000);
        due("empty then", x.count(6), 0);
        // "b(!b);c,b/2;*a(#=1)" by its bytes, the highest first.
        due("feed", x.feed(0x62282162, 0x293b632c, 0x622f323b, 0x2a612823, 0x3d3129ff), 20);
        due("settle", x.settle(100, 0, 0, 19), 0);
        due("falls", x.falls(0, 2, 1), 50);
        due("clauses", x.count(20), 3);
    }

    private static void settle() {
        promise = 10;
        HopeOffice x = withPersons(3);
        feed(x, "b,c/2(c|b&!#<2);*a/9");
        due("fund 0", x.settle(0, 0, 0, 20), -1);
        due("fund 100001", x.settle(100001, 0, 0, 20), -1);
        due("tenant 3", x.settle(1, 3, 0, 20), -1);
        due("tenant -1", x.settle(1, -1, 0, 20), -1);
        due("table 4", x.settle(1, 0, 4, 20), -1);
        due("table -1", x.settle(1, 0, -1, 20), -1);
        due("no bytes", x.settle(1, 0, 0, 0), -1);
        due("more bytes than there are", x.settle(1, 0, 0, 21), -1);
        due("101 bytes", x.settle(1, 0, 0, 101), -1);
        due("the tape stays", x.count(6), 20);
        due("settle", x.settle(100000, 0, 3, 20), 0);
        due("empty then", x.count(6), 0);
        due("count(20)", x.count(20), 2);
        for (int i = 1; i < 10; i++) {
            due("settle", settle(x, i, 0, "b"), i);
        }
        feed(x, "b");
        due("an eleventh", x.settle(1, 0, 0, 1), -1);
        due("the tape stays", x.count(6), 20);
        HopeOffice y = withPersons(2);
        String hundred = "b;b;b;b(" + "b|".repeat(45) + "b)";
        due("a text's length", hundred.length(), 100);
        due("100 bytes", settle(y, 1, 0, hundred), 0);
        due("clauses", y.count(20), 4);
    }

    /** A text by a tenant a, and what is due: its number 0, or a fault with the tape empty. */
    private static void text(String text, int want) {
        HopeOffice x = withPersons(2);
        due("settle " + text, settle(x, 1, 0, text), want);
        due("the tape behind " + text, x.count(6), 0);
        due("settlements behind " + text, x.count(2), want == 0 ? 1 : 0);
    }

    private static void settleFaults() {
        promise = 10;
        text("*a", 0);
        text("p", 0);
        text("q", -1000);
        text(" b", -1000);
        text("b ", -1001);
        text("b;", -1002);
        text("b,", -1002);
        text("b/", -1002);
        text("b/1", -1002);
        text("b/0", -1002);
        text("b/22", -1003);
        text("*", -1001);
        text("**b", -1001);
        text("b(", -1002);
        text("b()", -1002);
        text("b(c", -1003);
        text("b(c)c", -1004);
        text("b(c))", -1004);
        text("b(c&)", -1004);
        text("b(c||c)", -1004);
        text("b(!)", -1003);
        text("b(*)", -1003);
        text("b(#1)", -1003);
        text("b(#<)", -1004);
        text("b(#<100)", -1006);
        text("b(#>10)", 0);
        text("b(#=7|#<07)", 0);
        text("a", -2000);
        text("b,a", -2002);
        text("b(!a)", -2003);
        text("b(*a)", 0);
        text("a;;", -2000);
        text("b;;a", -1002);
        text("b;b;b;b;b;b;b;b", 0);
        text("b;b;b;b;b;b;b;b;b", -3016);
        text("b;b;b;b;b;b;b;b;a", -3016);
        text("b;b;b;b;b;b;b;b;*", -3016);
        text("b;b;b;b;b;b;b;b;", -1016);
        text("b;b;b;b;b;b;b;b;q", -1016);
        text("b,b,b,b", 0);
        text("b,b,b,b,b", -4008);
        text("b,b,b,b,a", -4008);
        text("b,b,b,b,*", -4008);
        text("b,b,b,b,", -1008);
        text("b,b,b,b,(", -1008);
        text("b((((((b))))))", 0);
        text("b(((((((b)))))))", -5007);
        text("b(!!!!!b)", 0);
        text("b(!!!!!!b)", -5007);
        text("b(!!!!!b&!!!!!b)", 0);
        text("b(!(!(!(b|!b))))", -5007);
        text("b(!(!((b|!b))))", -5009);
        text("b(!(!(b|!b)))", 0);
        text("b((((((b&(b))))))", -5009);
        text("b(((((((", -5007);
        text("b(((((!b&!b)))))", 0);
        text("b(b!b)", -1003);
    }

    private static void named() {
        promise = 11;
        HopeOffice x = new HopeOffice();
        x.person(1650, -1);
        x.person(1660, -1);
        x.person(1680, 0);
        settle(x, 10, 0, "*a,b/2,b(d|!*b);*k");
        due("b and a's child", x.named(0, 1700), 2);
        x.now(1705);
        x.person(1690, -1);
        x.person(1691, 1);
        due("as known ahead of these", x.named(0, 1704), 2);
        due("with d and b's child", x.named(0, 1705), 4);
        x.dies(1, 1705);
        due("the dead are named", x.named(0, 1705), 4);
        settle(x, 10, 2, "*a");
        due("but not the tenant", x.named(1, 1705), 0);
        due("no such settlement", x.named(2, 1705), -1);
        due("no such settlement", x.named(-1, 1705), -1);
        due("as known on the last year", x.named(0, 1999), 4);
        due("no such year", x.named(0, 1699), -1);
        due("no such year", x.named(0, 2000), -1);
    }

    private static void falls() {
        promise = 12;
        HopeOffice x = new HopeOffice();
        for (int i = 0; i < 4; i++) {
            x.person(1650, -1);
        }
        x.person(1680, 3);
        x.person(1680, 3);
        x.person(1680, 3);
        settle(x, 11, 0, "b/2,*d,c");
        due("b has a half, rounded down", x.falls(0, 126, 1), 5);
        due("a child has a third of all", x.falls(0, 126, 4), 3);
        due("the second likewise", x.falls(0, 126, 5), 3);
        due("the third what is left", x.falls(0, 126, 6), 0);
        due("c nothing", x.falls(0, 126, 2), 0);
        due("without b the third has it all", x.falls(0, 124, 6), 3);
        due("and c what is left", x.falls(0, 124, 2), 2);
        due("the dead have nothing", x.falls(0, 124, 1), 0);
        due("c alone has all", x.falls(0, 4, 2), 11);
        due("nobody", x.falls(0, 0, 2), 0);
        due("not named", x.falls(0, 127, 3), 0);
        due("not there", x.falls(0, 128, 2), -1);
        due("a set with every bit", x.falls(0, -1, 2), -1);
        due("person 7", x.falls(0, 0, 7), -1);
        due("person -1", x.falls(0, 0, -1), -1);
        due("settlement 1", x.falls(1, 0, 1), -1);
        settle(x, 10, 0, "b/4,b/4,b");
        due("one letter twice gets both", x.falls(1, 2, 1), 10);
        settle(x, 10, 4, "*d(*d&#=2);b(!*d&(c|#=0));c(b|c&b);d");
        due("the tenant is no child that is alive", x.falls(2, 112, 5), 5);
        due("nor has it anything", x.falls(2, 112, 4), 0);
        due("no child, c alive", x.falls(2, 6, 1), 10);
        due("no child, c dead", x.falls(2, 2, 2), 0);
        due("the last clause", x.falls(2, 8, 3), 10);
        settle(x, 10, 0, "b(k|c);c(#>02);d(!#<2)");
        due("one that is not there is not alive", x.falls(3, 2, 1), 0);
        due("or", x.falls(3, 6, 1), 10);
        due("no clause holds", x.falls(3, 8, 3), 0);
        due("not fewer than two, d not named twice", x.falls(3, 10, 3), 10);
        settle(x, 10, 0, "b(#<10&#<03);c(#>11|#=03);d");
        due("two of three", x.falls(4, 6, 1), 10);
        due("three of three", x.falls(4, 14, 2), 10);
        settle(x, 10, 0, "b(c|d&b)");
        due("an & binds more than a |", x.falls(5, 6, 1), 10);
        due("an & binds more than a |", x.falls(5, 2, 1), 0);
    }

    private static void chance() {
        promise = 13;
        HopeOffice x = small();
        settle(x, 100, 0, "b(!c);c");
        due("the whole", x.chance(0, 1, 1700, 1700, 1), 9);
        due("b", x.chance(0, 1, 1700, 1700, 0), 2);
        due("c", x.chance(0, 2, 1700, 1700, 0), 6);
        due("what 2", x.chance(0, 2, 1700, 1700, 2), -1);
        due("what -1", x.chance(0, 2, 1700, 1700, -1), -1);
        due("person 4", x.chance(0, 4, 1700, 1700, 1), -1);
        due("settlement 1", x.chance(1, 1, 1700, 1700, 1), -1);
        due("y ahead of t", x.chance(0, 1, 1700, 1699, 1), -1);
        due("t 1699", x.chance(0, 1, 1699, 1700, 1), -1);
        due("y 2000", x.chance(0, 1, 1700, 2000, 1), -1);
        due("no lives are left", x.chance(0, 1, 1700, 1999, 1), -1);
        x.table(0, 10, 0);
        settle(x, 100, 0, "b,c,d");
        due("a named one without lives", x.chance(1, 1, 1700, 1700, 1), -1);
        x.now(1701);
        x.dies(3, 1700);
        due("not known on 1700", x.chance(1, 1, 1700, 1700, 1), -1);
        due("known to be dead on 1701", x.chance(1, 1, 1701, 1701, 1), 9);
        x.person(1690, -1);
        settle(x, 100, 4, "b");
        due("the tenant is not there on 1700", x.chance(2, 1, 1700, 1701, 1), -1);
        due("it is on 1701", x.chance(2, 1, 1701, 1701, 1), 12);
        x.person(1690, -1);
        x.person(1690, -1);
        settle(x, 100, 0, "b,c,e/2,f/3");
        due("four", x.chance(3, 1, 1701, 1701, 1), 144);
        settle(x, 100, 0, "b,c,e/2,f/3(g)");
        due("five", x.chance(4, 1, 1701, 1701, 1), -1);
        x.dies(6, 1701);
        due("four and one dead", x.chance(4, 1, 1701, 1701, 1), 144);
        x.dies(0, 1701);
        due("the tenant is dead", x.chance(3, 1, 1701, 1701, 1), -1);
        due("but not as known on 1700", x.chance(0, 1, 1700, 1700, 1), 9);
    }

    private static void worth() {
        promise = 14;
        HopeOffice x = small();
        settle(x, 100, 0, "b(!c);c");
        due("b", x.worth(0, 1, 1700, 1700), 22);
        due("c", x.worth(0, 2, 1700, 1700), 66);
        due("who has no hope", x.worth(0, 3, 1700, 1700), 0);
        x.number(0, 10);
        due("with interest", x.worth(0, 2, 1700, 1700), 45);
        due("in 1703", x.worth(0, 2, 1700, 1703), 59);
        due("in 1704", x.worth(0, 2, 1700, 1704), -1);
        due("person 4", x.worth(0, 4, 1700, 1700), -1);
        due("y 2000", x.worth(0, 1, 1700, 2000), -1);
        HopeOffice late = new HopeOffice();
        late.now(1990);
        late.number(0, 0);
        late.table(0, 0, 9);
        late.table(0, 1, 9);
        late.person(1980, -1);
        late.person(1990, -1);
        settle(late, 100, 0, "b");
        due("in the last year", late.worth(0, 1, 1990, 1999), 100);
        due("in the last year there are branches", late.chance(0, 1, 1990, 1999, 1), 9);
        due("as known on a year ahead", late.chance(0, 1, 1999, 1999, 1), 9);
        HopeOffice big = new HopeOffice();
        big.number(0, 0);
        for (int i = 0; i <= 10; i++) {
            big.table(0, i, 200);
        }
        big.person(1600, -1);
        for (int i = 0; i < 4; i++) {
            big.person(1700, -1);
        }
        settle(big, 100000, 0, "b(b&c&d&e)");
        due("the greatest numbers", big.worth(0, 1, 1700, 1700), 100000);
        due("the greatest whole", big.chance(0, 1, 1700, 1700, 1), 320000000000L);
        due("the greatest weight", big.chance(0, 1, 1700, 1700, 0), 320000000000L);
    }

    private static void sale() {
        promise = 15;
        HopeOffice x = small();
        settle(x, 100, 0, "b(!c);c");
        due("parts 0", x.sale(2, 0, 0, 1, 5, true), -1);
        due("parts 1001", x.sale(2, 0, 1001, 1, 5, true), -1);
        due("price -1", x.sale(2, 0, 1, 1, -1, true), -1);
        due("price 100001", x.sale(2, 0, 1, 1, 100001, true), -1);
        due("seller 4", x.sale(4, 0, 1, 1, 5, true), -1);
        due("buyer 4", x.sale(2, 0, 1, 4, 5, true), -1);
        due("buyer -1", x.sale(2, 0, 1, -1, 5, true), -1);
        due("settlement 1", x.sale(2, 1, 1, 1, 5, true), -1);
        due("to oneself", x.sale(2, 0, 1, 2, 5, true), -1);
        due("price 0", x.sale(2, 0, 1, 1, 0, true), 0);
        due("price 100000", x.sale(2, 0, 1000, 1, 100000, false), 1);
        due("all again", x.sale(2, 0, 1000, 3, 1, false), 2);
        for (int i = 3; i < 40; i++) {
            due("sale", x.sale(0, 0, 1, 1, 0, true), i);
        }
        due("a forty-first", x.sale(2, 0, 1, 1, 0, true), -1);
        due("count(3)", x.count(3), 40);
        HopeOffice y = small();
        settle(y, 100, 0, "b(!c);c");
        y.dies(0, 1700);
        due("of a fund that fell", y.sale(2, 0, 1, 1, 0, true), -1);
    }

    private static void notice() {
        promise = 16;
        HopeOffice x = small();
        settle(x, 100, 0, "c");
        x.sale(2, 0, 1, 1, 0, true);
        x.sale(2, 0, 1, 1, 0, true);
        due("minute -1", x.notice(0, -1), false);
        due("minute 527040", x.notice(0, 527040), false);
        due("of sale 2", x.notice(2, 0), false);
        due("of sale -1", x.notice(-1, 0), false);
        due("not given", x.look(0, 7), -1);
        due("minute 527039", x.notice(0, 527039), true);
        due("twice", x.notice(0, 1), false);
        due("its minute", x.look(0, 7), 527039);
        x.now(1710);
        x.dies(0, 1705);
        due("behind the fall", x.notice(1, 0), true);
        due("its year", x.look(1, 6), 1710);
    }

    private static void charge() {
        promise = 17;
        HopeOffice x = small();
        settle(x, 100, 0, "c");
        due("sum 0", x.charge(2, 0, 1, 0), -1);
        due("sum 100001", x.charge(2, 0, 1, 100001), -1);
        due("person 4", x.charge(4, 0, 1, 1), -1);
        due("for 4", x.charge(2, 0, 4, 1), -1);
        due("for -1", x.charge(2, 0, -1, 1), -1);
        due("settlement 1", x.charge(2, 1, 1, 1), -1);
        due("for oneself", x.charge(2, 0, 2, 1), -1);
        due("sum 100000", x.charge(2, 0, 1, 100000), 0);
        for (int i = 1; i < 20; i++) {
            due("charge", x.charge(2, 0, 1, 1), i);
        }
        due("a twenty-first", x.charge(2, 0, 1, 1), -1);
        due("count(4)", x.count(4), 20);
    }

    private static void actText(String text, int want) {
        HopeOffice x = withPersons(1);
        due("act " + text, act(x, text), want);
        due("the tape behind " + text, x.count(6), 0);
        due("an act behind " + text, x.count(7), want == 0 ? 1 : 0);
    }

    private static void act() {
        promise = 18;
        HopeOffice x = withPersons(1);
        feed(x, "p<w");
        due("no bytes", x.act(0), -1);
        due("61 bytes", x.act(61), -1);
        due("more than there are", x.act(21), -1);
        due("the tape stays", x.count(6), 20);
        due("none yet", x.count(7), 0);
        due("act", x.act(3), 0);
        actText("p<w", 0);
        actText("1>2", 0);
        actText("(p+w)*(a-v)-t*999999<000000", 0);
        actText("p", -1001);
        actText("<p", -1000);
        actText("p<", -1002);
        actText("p<w<w", -1003);
        actText("p=w", -1001);
        actText("p*<w", -1002);
        actText("-p<w", -1000);
        actText("p<w)", -1003);
        actText("(p<w)", -1002);
        actText("(p<", -1002);
        actText("p<(w", -1004);
        actText("p<()", -1003);
        actText("pw<1", -1001);
        actText("b<1", -1000);
        actText("p <1", -1001);
        actText("1p<1", -1001);
        actText("999999<1", 0);
        actText("9999999<1", -2006);
        actText("1<p*1234567", -2010);
        actText("((((((p))))))<1", 0);
        actText("(((((((p)))))))<1", -5006);
        actText("((((((p))))))<((((((p))))))", 0);
        actText("1<(((((((", -5008);
        actText("p+" + "1+".repeat(27) + "1<12", 0);
        actText("p*2+1234567890<12345", -2010);
        actText("p*2+123456-98765<123", 0);
        HopeOffice y = small();
        settle(y, 100, 0, "b(!c);c");
        act(y, "w>0");
        y.sale(2, 0, 1000, 1, 5, true);
        due("a fault", act(y, "w>"), -1002);
        due("the one before stays", y.hard(0), 1);
        due("the latest told", act(y, "w<0"), 0);
        due("the latest told", y.hard(0), 0);
    }

    /** Whether a sale of 300 thousandths for 7, not advised, of a WORTH of 66 by one of 26 years is HARD. */
    private static void weighed(String text, int want) {
        HopeOffice x = small();
        settle(x, 100, 0, "b(!c);c");
        x.sale(2, 0, 300, 1, 7, false);
        due("act", act(x, text), 0);
        due("hard by " + text, x.hard(0), want);
    }

    private static void hard() {
        promise = 19;
        weighed("p>6", 1);
        weighed("p>7", 0);
        weighed("p<8", 1);
        weighed("w<20", 1);
        weighed("w>18", 1);
        weighed("a>25", 1);
        weighed("a<27", 1);
        weighed("v<1", 1);
        weighed("v+1>0", 1);
        weighed("t>299", 1);
        weighed("t<301", 1);
        weighed("10-3-2<6", 1);
        weighed("10-3-2>4", 1);
        weighed("2+3*4<15", 1);
        weighed("2+3*4>13", 1);
        weighed("(2+3)*4>19", 1);
        weighed("(2+3)*4<21", 1);
        weighed("10-(3-2)>8", 1);
        weighed("2*3-4*1+p*p>50", 1);
        weighed("2*3-4*1+p*p<52", 1);
        weighed("999999*999999*999999*9>0", 1);
        weighed("999999*999999*999999*10<0", 1);
        weighed("999999*999999*999999*p*p<0", 999999L * 999999 * 999999 * 49 < 0 ? 1 : 0);
        weighed("(p-8)*999999*999999*999999*999>0", 0);
        HopeOffice x = small();
        settle(x, 100, 0, "b(!c);c");
        x.sale(2, 0, 1000, 1, 5, true);
        due("without an act", x.hard(0), 0);
        act(x, "v*w>p");
        due("advised", x.hard(0), 1);
        act(x, "v>1");
        due("advised", x.hard(0), 0);
        act(x, "v>0");
        due("sale 1", x.hard(1), -1);
        due("sale -1", x.hard(-1), -1);
        x.now(1701);
        x.dies(0, 1701);
        due("as known in its year", x.hard(0), 1);
        HopeOffice y = small();
        settle(y, 100, 3, "b");
        act(y, "1>0");
        y.sale(1, 0, 1, 0, 0, true);
        due("worth is not reckoned", y.hard(0), 0);
    }

    private static void undo() {
        promise = 20;
        HopeOffice x = small();
        settle(x, 100, 0, "b(!c);c");
        x.sale(2, 0, 500, 1, 19, false);
        x.sale(2, 0, 500, 1, 99, false);
        due("without an act", x.undo(0), -1);
        act(x, "p<20");
        x.now(1703);
        x.number(0, 7);
        due("sale 2", x.undo(2), -1);
        due("sale -1", x.undo(-1), -1);
        due("not hard", x.undo(1), -1);
        // 19, 20.33, 21.4, 22.47: each year rounded down.
        due("three years by 7", x.undo(0), 22);
        due("twice", x.undo(0), -1);
        due("its year", x.look(0, 8), 1703);
        due("it is none", x.holds(1, 0), 1);
        act(x, "p>20");
        x.dies(0, 1703);
        due("the tenant is dead", x.undo(1), -1);
        HopeOffice y = small();
        settle(y, 100, 0, "b(!c);c");
        y.sale(2, 0, 500, 1, 100000, false);
        act(y, "p>0");
        y.now(1998);
        y.number(0, 20);
        due("a long time", y.undo(0), 1000000000000L);
    }

    private static void least() {
        promise = 21;
        HopeOffice x = small();
        settle(x, 100, 0, "b(!c);c");
        due("without an act", x.least(2, 0, 1000, true), 0);
        act(x, "p*2<w");
        due("half of 66", x.least(2, 0, 1000, true), 33);
        due("half of 16", x.least(2, 0, 250, true), 8);
        due("who has no hope", x.least(3, 0, 1000, true), 0);
        due("parts 0", x.least(2, 0, 0, true), -1);
        due("parts 1001", x.least(2, 0, 1001, true), -1);
        due("person 4", x.least(4, 0, 1, true), -1);
        due("settlement 1", x.least(2, 1, 1, true), -1);
        act(x, "p<100000+v");
        due("the greatest", x.least(2, 0, 1, false), 100000);
        due("there is none", x.least(2, 0, 1, true), -1);
        act(x, "w>0");
        due("none of what is worth something", x.least(2, 0, 1000, true), -1);
        due("but of what is worth nothing", x.least(2, 0, 1, true), 0);
        act(x, "(p-10)*(p-10)>0");
        due("the first that is not hard", x.least(2, 0, 1, true), 10);
        act(x, "p*p*p*p<999999*999999*999999*9");
        due("of great numbers", x.least(2, 0, 1, true), 54773);
        act(x, "p*p*p*p+1>0");
        due("by 64 bits", x.least(2, 0, 1, true), 55109);
        x.dies(0, 1700);
        due("not reckoned", x.least(2, 0, 1000, true), 0);
        due("no sale was told", x.count(3), 0);
    }

    private static void cover() {
        promise = 22;
        HopeOffice x = small();
        settle(x, 100, 0, "b(!c);c");
        // Of b's 3 lives one ends in the year k 3, the last that the tenant's one sees.
        due("of 100", x.cover(0, 1, 100), 33);
        due("of the greatest sum", x.cover(0, 1, 100000), 33333);
        due("sum 0", x.cover(0, 1, 0), -1);
        due("sum 100001", x.cover(0, 1, 100001), -1);
        due("of 1", x.cover(0, 1, 1), 0);
        due("of the tenant", x.cover(0, 0, 1), -1);
        due("person 4", x.cover(0, 4, 1), -1);
        due("settlement 1", x.cover(1, 1, 1), -1);
        due("without lives", x.cover(0, 3, 1), -1);
        x.number(0, 10);
        due("with interest", x.cover(0, 1, 100), 22);
        x.dies(1, 1700);
        due("of the dead", x.cover(0, 1, 1), -1);
        due("of the other", x.cover(0, 2, 100), 22);
        x.dies(0, 1700);
        due("by a dead tenant", x.cover(0, 2, 100), -1);
    }

    private static void gain() {
        promise = 23;
        HopeOffice x = small();
        settle(x, 99, 0, "b/2,c/3;d");
        due("it did not fall", x.gain(0, 1, 1700), -1);
        x.now(1710);
        x.dies(0, 1705);
        x.dies(1, 1705);
        due("as known ahead of it", x.gain(0, 1, 1709), -1);
        due("who died in the same year", x.gain(0, 1, 1710), 0);
        due("who is alive", x.gain(0, 2, 1710), 33);
        due("the tenant", x.gain(0, 0, 1710), 0);
        x.now(1712);
        x.dies(2, 1704);
        due("not yet known to be dead", x.gain(0, 2, 1711), 33);
        due("dead ahead of the fall", x.gain(0, 2, 1712), 0);
        due("person 4", x.gain(0, 4, 1712), -1);
        due("settlement 1", x.gain(1, 2, 1712), -1);
        due("no such year", x.gain(0, 2, 2000), -1);
        HopeOffice y = small();
        settle(y, 90, 0, "*b");
        y.now(1720);
        y.dies(0, 1710);
        y.person(1710, 1);
        y.person(1711, 1);
        y.person(1705, 1);
        y.dies(6, 1711);
        due("born in the year of the fall", y.gain(0, 4, 1720), 45);
        due("born behind it", y.gain(0, 5, 1720), 0);
        due("died behind it", y.gain(0, 6, 1720), 45);
    }

    private static void paid() {
        promise = 24;
        HopeOffice x = small();
        x.person(1680, -1);
        settle(x, 1000, 0, "c");
        settle(x, 1000, 0, "c");
        x.sale(2, 0, 333, 1, 0, true);
        x.sale(2, 0, 333, 3, 0, true);
        x.sale(2, 0, 600, 4, 0, true);
        x.sale(2, 1, 900, 1, 0, true);
        x.charge(2, 0, 3, 100);
        x.charge(2, 0, 4, 30);
        x.charge(1, 0, 4, 500);
        x.notice(2, 40);
        x.now(1701);
        x.notice(1, 3);
        x.number(1, 7);
        due("it did not fall", x.paid(0, 2, 2, 1701), -1);
        x.dies(0, 1701);
        // 1000, less 70 of duty, 100 and 30 of charges: 800 are parted 600, 333, then 67 thousandths.
        due("the first by notice, and a charge", x.paid(0, 2, 4, 1701), 510);
        due("the second by notice, and a charge", x.paid(0, 2, 3, 1701), 366);
        due("without notice", x.paid(0, 2, 1, 1701), 53);
        due("the rest is one's own", x.paid(0, 2, 2, 1701), 1);
        due("who has nothing to do with it", x.paid(0, 2, 0, 1701), 0);
        x.now(1702);
        x.notice(0, 1);
        x.charge(2, 0, 1, 5);
        due("as known ahead of a charge", x.paid(0, 2, 1, 1701), 53);
        due("a charge told since", x.paid(0, 2, 1, 1702), 58);
        due("another settlement's sale", x.paid(1, 2, 1, 1702), 837);
        due("of who gains nothing", x.paid(0, 1, 4, 1702), 0);
        due("person 5", x.paid(0, 5, 4, 1702), -1);
        due("to 5", x.paid(0, 2, 5, 1702), -1);
        due("settlement 2", x.paid(2, 2, 1, 1702), -1);
        due("as known on 1700", x.paid(0, 2, 1, 1700), -1);
        HopeOffice y = small();
        settle(y, 100, 0, "c");
        y.sale(2, 0, 700, 1, 0, true);
        y.sale(2, 0, 700, 3, 0, true);
        y.charge(2, 0, 3, 60);
        y.charge(2, 0, 1, 60);
        y.dies(0, 1700);
        due("charges as far as it reaches", y.paid(0, 2, 3, 1700), 60);
        due("charges as far as it reaches", y.paid(0, 2, 1, 1700), 40);
        HopeOffice z = small();
        settle(z, 100, 0, "c");
        z.sale(2, 0, 700, 1, 0, true);
        z.sale(2, 0, 700, 3, 0, true);
        z.now(1701);
        z.dies(0, 1701);
        z.now(1702);
        z.notice(1, 0);
        due("ahead of the notice", z.paid(0, 2, 3, 1701), 30);
        due("by the notice", z.paid(0, 2, 3, 1702), 70);
        HopeOffice u = small();
        settle(u, 100, 0, "c");
        u.sale(2, 0, 700, 1, 0, true);
        u.sale(2, 0, 700, 3, 9, true);
        act(u, "p<5");
        u.undo(0);
        u.dies(0, 1700);
        due("a sale that is undone is none", u.paid(0, 2, 1, 1700), 0);
        due("and takes no part", u.paid(0, 2, 3, 1700), 70);
        due("the rest", u.paid(0, 2, 2, 1700), 30);
    }

    private static void holds() {
        promise = 25;
        HopeOffice x = small();
        settle(x, 100, 0, "b/2,c/2(b);c/4(c)");
        settle(x, 60, 1, "c");
        due("nothing", x.holds(3, 0), 0);
        due("nothing, by one way", x.holds(3, 3), 1);
        x.sale(1, 0, 1000, 3, 0, true);
        due("one sale", x.holds(3, 0), 1);
        due("its thousandths", x.holds(3, 1), 1000);
        due("b is dead", x.holds(3, 2), 0);
        due("by two ways", x.holds(3, 3), 2);
        x.sale(2, 0, 500, 3, 0, true);
        due("both are dead", x.holds(3, 2), 0);
        due("by one way", x.holds(3, 3), 1);
        x.sale(2, 0, 500, 0, 0, true);
        x.sale(2, 0, 500, 3, 0, true);
        due("all thousandths as sold", x.holds(3, 1), 2000);
        // b as a tenant is dead with a: c alone is alive or not.
        x.sale(2, 1, 1000, 3, 0, true);
        due("c dead", x.holds(3, 2), 0);
        due("by one way", x.holds(3, 3), 1);
        due("what 4", x.holds(3, 4), -1);
        due("what -1", x.holds(3, -1), -1);
        due("buyer 4", x.holds(4, 0), -1);
        x.dies(0, 1700);
        due("one of both fell", x.holds(3, 0), 1);
        HopeOffice y = new HopeOffice();
        y.number(0, 0);
        for (int i = 0; i < 11; i++) {
            y.person(1680, -1);
        }
        settle(y, 100, 0, "b,c(b|c|d|e|f|g|h|i);j/2");
        y.sale(9, 0, 900, 10, 0, true);
        due("nine", y.holds(10, 2), -1);
        due("nine", y.holds(10, 3), -1);
        due("nine, but told by numbers", y.holds(10, 0), 1);
        y.dies(8, 1700);
        due("eight", y.holds(10, 2), 0);
        due("by all ways but that of j alone", y.holds(10, 3), 255);
        waysOfHolding();
    }

    /** With nobody alive nothing comes, so the least is 0; how many ways bring it tells more. */
    private static void waysOfHolding() {
        HopeOffice x = small();
        settle(x, 100, 0, "b(!c);b/2,d/2");
        x.sale(1, 0, 700, 2, 0, true);
        due("b dead, the others alive or not", x.holds(2, 3), 4);
        x.sale(1, 0, 1000, 3, 0, true);
        x.notice(1, 9);
        due("behind a sale of all with notice", x.holds(2, 3), 8);
        due("which brings something", x.holds(3, 3), 4);
        x.sale(3, 0, 19, 2, 0, true);
        due("d has a half and sold too few thousandths", x.holds(2, 3), 8);
        x.sale(3, 0, 1, 2, 0, true);
        due("two small sales bring nothing each", x.holds(2, 3), 8);
        x.sale(3, 0, 20, 2, 0, true);
        due("nothing unless c and d are alive", x.holds(2, 3), 6);
        x.charge(3, 0, 0, 100000);
        x.number(1, 50);
        due("without duty and charges", x.holds(2, 3), 6);
        x.dies(2, 1700);
        due("c is known to be dead", x.holds(2, 3), 4);
    }

    private static void papers() {
        promise = 26;
        HopeOffice x = new HopeOffice();
        x.person(1690, -1);
        x.person(1695, -1);
        due("person 2", x.papers(2, 1700), false);
        due("person -1", x.papers(-1, 1700), false);
        due("year -1", x.papers(0, -1), false);
        due("year 1701", x.papers(0, 1701), false);
        due("in the year of birth", x.papers(0, 1690), true);
        due("in this year", x.papers(0, 1700), true);
        promise = 27;
        due("none is false", x.falseOnes(), 0);
        x.dies(0, 1700);
        due("alive in the year of death", x.falseOnes(), 0);
        promise = 26;
        due("in the year 0", x.papers(1, 0), true);
        promise = 27;
        due("ahead of birth", x.falseOnes(), 2);
        x.now(1702);
        x.papers(0, 1701);
        due("behind death", x.falseOnes(), 3);
        promise = 26;
        for (int i = 4; i < 100; i++) {
            due("papers", x.papers(0, 1702), true);
        }
        due("a hundred and first", x.papers(0, 1702), false);
        due("count(5)", x.count(5), 100);
        promise = 27;
        HopeOffice y = new HopeOffice();
        y.person(1690, -1);
        y.now(1710);
        y.papers(0, 1708);
        due("alive in 1708", y.falseOnes(), 0);
        y.dies(0, 1707);
        due("dead since 1707", y.falseOnes(), 1);
        for (int i = 1; i < 16; i++) {
            y.person(1710, -1);
        }
        y.papers(15, 1709);
        due("the sixteenth", y.falseOnes(), 32769);
    }

    private static void look() {
        promise = 28;
        HopeOffice x = small();
        settle(x, 100, 3, "c");
        settle(x, 100, 0, "c");
        x.now(1702);
        x.sale(2, 1, 750, 3, 12, true);
        int[] first = {2, 1, 750, 3, 12, 1702, -1, -1, -1};
        for (int i = 0; i < first.length; i++) {
            due("look(0, " + i + ")", x.look(0, i), first[i]);
        }
        x.now(1703);
        x.notice(0, 77);
        x.now(1704);
        x.table(0, 4, 1);
        x.table(0, 5, 1);
        act(x, "p<20");
        due("undo", x.undo(0), 12);
        due("the year of notice", x.look(0, 6), 1703);
        due("its minute", x.look(0, 7), 77);
        due("the year of undoing", x.look(0, 8), 1704);
        due("what 9", x.look(0, 9), -1);
        due("what -1", x.look(0, -1), -1);
        due("sale 1", x.look(1, 0), -1);
        due("sale -1", x.look(-1, 0), -1);
    }

    private static void count() {
        promise = 29;
        HopeOffice x = small();
        x.now(1733);
        settle(x, 100, 0, "c;b;c");
        settle(x, 100, 0, "c");
        x.sale(2, 1, 1, 3, 1, true);
        x.charge(2, 0, 1, 1);
        x.charge(2, 0, 1, 1);
        x.papers(0, 1700);
        act(x, "1>2");
        feed(x, "b");
        x.number(0, 3);
        x.number(1, 4);
        x.dies(3, 1731);
        int[] all = {1733, 4, 2, 1, 2, 1, 20, 1, 3, 4};
        for (int i = 0; i < all.length; i++) {
            due("count(" + i + ")", x.count(i), all[i]);
        }
        due("count(-1)", x.count(-1), -1);
        for (int i = 10; i < 80; i++) {
            int want = i == 20 ? 3 : i == 21 ? 1 : i == 43 ? 1731 : -1;
            due("count(" + i + ")", x.count(i), want);
        }
        due("count(MIN)", x.count(Integer.MIN_VALUE), -1);
        due("count(MAX)", x.count(Integer.MAX_VALUE), -1);
    }
}
